/-! ===== locals ===== -/
def isJ : LV → Bool
  | .inl _ => false
  | .inr (.inl _) => true
  | .inr (.inr _) => false
def lgt : List (Nat × LV) → Nat → Option LV
  | [], _ => none
  | q :: l, i => cond (Nat.beq q.1 i) (some q.2) (lgt l i)
def lst1 (i : Nat) (v : LV) (ls : List (Nat × LV)) : List (Nat × LV) := (i, v) :: ls.filter (fun q => !(Nat.beq q.1 i) && !(Nat.beq (q.1 + 1) i && isJ q.2))
def lst2 (i : Nat) (v : LV) (ls : List (Nat × LV)) : List (Nat × LV) := (i, v) :: ls.filter (fun q => !(Nat.beq q.1 i) && (!(Nat.beq q.1 (i + 1)) && !(Nat.beq (q.1 + 1) i && isJ q.2)))
theorem lgt_mem {i : Nat} {v : LV} : ∀ {ls : List (Nat × LV)}, lgt ls i = some v → (i, v) ∈ ls
  | [], h => by cases h
  | q :: l, h => by
    unfold lgt at h
    cases hb : Nat.beq q.1 i with
    | true =>
      rw [hb] at h
      have e1 : q.1 = i := Nat.eq_of_beq_eq_true hb
      have e2 : q.2 = v := Option.some.inj h
      exact List.mem_cons.mpr (Or.inl (by rw [← e1, ← e2]))
    | false =>
      rw [hb] at h
      exact List.mem_cons_of_mem _ (lgt_mem h)
theorem nbeq (a b : Nat) : (a == b) = Nat.beq a b := by
  rw [Bool.eq_iff_iff, beq_iff_eq, Nat.beq_eq]
theorem cvv_cat (g : Gl) (v : LV) : ((cvv g v).category == 2) = isJ v := by
  rcases v with x | x | (_ | x) <;> rfl
theorem lgt_at {cx : CX} {lsA : Array Slot} {nL i : Nat} {v : LV} {ls : List (Nat × LV)} (h : lv_has lsA nL (cvl cx ls)) (hi : lgt ls i = some v) : lsA[i]? = some (.val (cvv cx.1 v)) :=
  h.2.2 (i, cvv cx.1 v) (List.mem_map.mpr ⟨(i, v), lgt_mem hi, rfl⟩)
theorem lst1_eq (cx : CX) (i : Nat) (v : LV) (ls : List (Nat × LV)) : (i, cvv cx.1 v) :: (cvl cx ls).filter (fun q => !(q.1 == i) && !(q.1 + 1 == i && q.2.category == 2)) = cvl cx (lst1 i v ls) := by
  unfold cvl lst1
  rw [List.map_cons, List.filter_map]
  congr 2
  apply List.filter_congr
  intro q _
  show (!(q.1 == i) && !(q.1 + 1 == i && (cvv cx.1 q.2).category == 2)) = _
  rw [cvv_cat]
  simp only [nbeq]
theorem lst2_eq (cx : CX) (i : Nat) (v : LV) (ls : List (Nat × LV)) : (i, cvv cx.1 v) :: (cvl cx ls).filter (fun q => !(q.1 == i) && (!(q.1 == i + 1) && !(q.1 + 1 == i && q.2.category == 2))) = cvl cx (lst2 i v ls) := by
  unfold cvl lst2
  rw [List.map_cons, List.filter_map]
  congr 2
  apply List.filter_congr
  intro q _
  show (!(q.1 == i) && (!(q.1 == i + 1) && !(q.1 + 1 == i && (cvv cx.1 q.2).category == 2))) = _
  rw [cvv_cat]
  simp only [nbeq]
def irem (z x : Int32) : Int32 := z - z / x * x
def lrem (z x : Int64) : Int64 := z - z / x * x
theorem lgc_cases (z x : Int64) : (x < z ∧ lg_cmp z x = 1) ∨ (z = x ∧ lg_cmp z x = 0) ∨ (z < x ∧ lg_cmp z x = -1) := by
  unfold lg_cmp
  by_cases h1 : z > x
  · exact Or.inl ⟨h1, if_pos h1⟩
  · by_cases h2 : z = x
    · exact Or.inr (Or.inl ⟨h2, by rw [if_neg h1, if_pos h2]⟩)
    · refine Or.inr (Or.inr ⟨?_, by rw [if_neg h1, if_neg h2]⟩)
      rw [Int64.lt_iff_toInt_lt]
      have h3 : ¬ x.toInt < z.toInt := fun q => h1 (Int64.lt_iff_toInt_lt.mpr q)
      have h4 : z.toInt ≠ x.toInt := fun q => h2 (Int64.toInt_inj.mp q)
      omega
theorem lgc_eq (z x : Int64) : lg_cmp z x = 0 ↔ z = x := by
  rcases lgc_cases z x with ⟨h, e⟩ | ⟨h, e⟩ | ⟨h, e⟩ <;> rw [e]
  · exact ⟨fun q => absurd q (by decide), fun q => by rw [q, Int64.lt_iff_toInt_lt] at h; omega⟩
  · exact ⟨fun _ => h, fun _ => rfl⟩
  · exact ⟨fun q => absurd q (by decide), fun q => by rw [q, Int64.lt_iff_toInt_lt] at h; omega⟩
theorem lgc_ne (z x : Int64) : ¬ lg_cmp z x = 0 ↔ ¬ z = x := not_congr (lgc_eq z x)
theorem lgc_lt (z x : Int64) : lg_cmp z x < 0 ↔ z < x := by
  rcases lgc_cases z x with ⟨h, e⟩ | ⟨h, e⟩ | ⟨h, e⟩ <;> rw [e]
  · exact ⟨fun q => absurd q (by decide), fun q => by rw [Int64.lt_iff_toInt_lt] at h q; omega⟩
  · exact ⟨fun q => absurd q (by decide), fun q => by rw [h, Int64.lt_iff_toInt_lt] at q; omega⟩
  · exact ⟨fun _ => h, fun _ => by decide⟩
theorem lgc_gt (z x : Int64) : lg_cmp z x > 0 ↔ z > x := by
  rcases lgc_cases z x with ⟨h, e⟩ | ⟨h, e⟩ | ⟨h, e⟩ <;> rw [e]
  · exact ⟨fun _ => h, fun _ => by decide⟩
  · exact ⟨fun q => absurd q (by decide), fun q => by rw [h] at q; have q2 := Int64.lt_iff_toInt_lt.mp q; omega⟩
  · exact ⟨fun q => absurd q (by decide), fun q => by have q2 := Int64.lt_iff_toInt_lt.mp q; rw [Int64.lt_iff_toInt_lt] at h; omega⟩
theorem lgc_ge (z x : Int64) : lg_cmp z x ≥ 0 ↔ z ≥ x := by
  rcases lgc_cases z x with ⟨h, e⟩ | ⟨h, e⟩ | ⟨h, e⟩ <;> rw [e]
  · exact ⟨fun _ => by have q2 := Int64.lt_iff_toInt_lt.mp h; exact Int64.le_iff_toInt_le.mpr (by omega), fun _ => by decide⟩
  · exact ⟨fun _ => by rw [h]; exact Int64.le_iff_toInt_le.mpr (by omega), fun _ => by decide⟩
  · exact ⟨fun q => absurd q (by decide), fun q => by have q2 := Int64.le_iff_toInt_le.mp q; rw [Int64.lt_iff_toInt_lt] at h; omega⟩
theorem lgc_le (z x : Int64) : lg_cmp z x ≤ 0 ↔ z ≤ x := by
  rcases lgc_cases z x with ⟨h, e⟩ | ⟨h, e⟩ | ⟨h, e⟩ <;> rw [e]
  · exact ⟨fun q => absurd q (by decide), fun q => by have q2 := Int64.le_iff_toInt_le.mp q; rw [Int64.lt_iff_toInt_lt] at h; omega⟩
  · exact ⟨fun _ => by rw [h]; exact Int64.le_iff_toInt_le.mpr (by omega), fun _ => by decide⟩
  · exact ⟨fun _ => by have q2 := Int64.lt_iff_toInt_lt.mp h; exact Int64.le_iff_toInt_le.mpr (by omega), fun _ => by decide⟩
theorem cvv_cat1 (g : Gl) {v : LV} (h : isJ v = false) : (cvv g v).category = 1 := by
  rcases v with x | x | (_ | x)
  · rfl
  · cases h
  · rfl
  · rfl
section SNQ
variable {α : Type} {cx : CX} {y : MD} {enc : α → Option LV} {pc : Nat} {ls : List (Nat × LV)} {st : List LV} {F : Mo α}
theorem sn_iload_n {i : Fin 4} {x : Int32} (d : decode y.2.2.1 pc = .ok (.iload_n i, 1)) (e : lgt ls i.val = some (vI x)) (k : Sn cx y enc (pc + 1) ls (vI x :: st) F) : Sn cx y enc pc ls st F :=
  ⟨k.1, fun ok h r h' hF hE H locs lsA hR hm hl => lv_iload_n ok.1 ok.2.1 d rfl (lgt_at hl e) (k.2 ok h r h' hF hE H locs lsA hR hm hl)⟩
theorem sn_iload {i : Nat} {x : Int32} (d : decode y.2.2.1 pc = .ok (.iload i, 2)) (e : lgt ls i = some (vI x)) (k : Sn cx y enc (pc + 2) ls (vI x :: st) F) : Sn cx y enc pc ls st F :=
  ⟨k.1, fun ok h r h' hF hE H locs lsA hR hm hl => lv_iload ok.1 ok.2.1 d (lgt_at hl e) (k.2 ok h r h' hF hE H locs lsA hR hm hl)⟩
theorem sn_lload_n {i : Fin 4} {x : Int64} (d : decode y.2.2.1 pc = .ok (.lload_n i, 1)) (e : lgt ls i.val = some (vJ x)) (k : Sn cx y enc (pc + 1) ls (vJ x :: st) F) : Sn cx y enc pc ls st F :=
  ⟨k.1, fun ok h r h' hF hE H locs lsA hR hm hl => lv_lload_n ok.1 ok.2.1 d rfl (lgt_at hl e) (k.2 ok h r h' hF hE H locs lsA hR hm hl)⟩
theorem sn_lload {i : Nat} {x : Int64} (d : decode y.2.2.1 pc = .ok (.lload i, 2)) (e : lgt ls i = some (vJ x)) (k : Sn cx y enc (pc + 2) ls (vJ x :: st) F) : Sn cx y enc pc ls st F :=
  ⟨k.1, fun ok h r h' hF hE H locs lsA hR hm hl => lv_lload ok.1 ok.2.1 d (lgt_at hl e) (k.2 ok h r h' hF hE H locs lsA hR hm hl)⟩
theorem sn_aload_n {i : Fin 4} {x : Option Nat} (d : decode y.2.2.1 pc = .ok (.aload_n i, 1)) (e : lgt ls i.val = some (vA x)) (k : Sn cx y enc (pc + 1) ls (vA x :: st) F) : Sn cx y enc pc ls st F :=
  ⟨k.1, fun ok h r h' hF hE H locs lsA hR hm hl => by
    cases x with
    | none => exact lv_aload_nN ok.1 ok.2.1 d rfl (lgt_at hl e) (k.2 ok h r h' hF hE H locs lsA hR hm hl)
    | some x => exact lv_aload_n ok.1 ok.2.1 d rfl (lgt_at hl e) (k.2 ok h r h' hF hE H locs lsA hR hm hl)⟩
theorem sn_aload {i : Nat} {x : Option Nat} (d : decode y.2.2.1 pc = .ok (.aload i, 2)) (e : lgt ls i = some (vA x)) (k : Sn cx y enc (pc + 2) ls (vA x :: st) F) : Sn cx y enc pc ls st F :=
  ⟨k.1, fun ok h r h' hF hE H locs lsA hR hm hl => by
    cases x with
    | none => exact lv_aloadN ok.1 ok.2.1 d (lgt_at hl e) (k.2 ok h r h' hF hE H locs lsA hR hm hl)
    | some x => exact lv_aload ok.1 ok.2.1 d (lgt_at hl e) (k.2 ok h r h' hF hE H locs lsA hR hm hl)⟩
theorem sn_istore_n {i : Fin 4} {x : Int32} (d : decode y.2.2.1 pc = .ok (.istore_n i, 1)) (hn : Nat.ble (i.val + 1) y.2.2.2.1 = true) (k : Sn cx y enc (pc + 1) (lst1 i.val (vI x) ls) st F) : Sn cx y enc pc ls (vI x :: st) F :=
  ⟨k.1, fun ok h r h' hF hE H locs lsA hR hm hl => lv_istore_n ok.1 ok.2.1 d rfl hl (Nat.le_of_ble_eq_true hn) (lst1_eq cx i.val (vI x) ls) (fun lsB hB => k.2 ok h r h' hF hE H locs lsB hR hm hB)⟩
theorem sn_istore_nM {i : Fin 4} {x : Int32} {G : Int32 → Mo α} (d : decode y.2.2.1 pc = .ok (.istore_n i, 1)) (hn : Nat.ble (i.val + 1) y.2.2.2.1 = true) (k : ∀ x, Sn cx y enc (pc + 1) (lst1 i.val (vI x) ls) st (G x)) : Sn cx y enc pc ls (vI x :: st) (mNm x G) := sn_istore_n d hn (k x)
theorem sn_istore {i : Nat} {x : Int32} (d : decode y.2.2.1 pc = .ok (.istore i, 2)) (hn : Nat.ble (i + 1) y.2.2.2.1 = true) (k : Sn cx y enc (pc + 2) (lst1 i (vI x) ls) st F) : Sn cx y enc pc ls (vI x :: st) F :=
  ⟨k.1, fun ok h r h' hF hE H locs lsA hR hm hl => lv_istore ok.1 ok.2.1 d hl (Nat.le_of_ble_eq_true hn) (lst1_eq cx i (vI x) ls) (fun lsB hB => k.2 ok h r h' hF hE H locs lsB hR hm hB)⟩
theorem sn_istoreM {i : Nat} {x : Int32} {G : Int32 → Mo α} (d : decode y.2.2.1 pc = .ok (.istore i, 2)) (hn : Nat.ble (i + 1) y.2.2.2.1 = true) (k : ∀ x, Sn cx y enc (pc + 2) (lst1 i (vI x) ls) st (G x)) : Sn cx y enc pc ls (vI x :: st) (mNm x G) := sn_istore d hn (k x)
theorem sn_lstore_n {i : Fin 4} {x : Int64} (d : decode y.2.2.1 pc = .ok (.lstore_n i, 1)) (hn : Nat.ble (i.val + 2) y.2.2.2.1 = true) (k : Sn cx y enc (pc + 1) (lst2 i.val (vJ x) ls) st F) : Sn cx y enc pc ls (vJ x :: st) F :=
  ⟨k.1, fun ok h r h' hF hE H locs lsA hR hm hl => lv_lstore_n ok.1 ok.2.1 d rfl hl (Nat.le_of_ble_eq_true hn) (lst2_eq cx i.val (vJ x) ls) (fun lsB hB => k.2 ok h r h' hF hE H locs lsB hR hm hB)⟩
theorem sn_lstore_nM {i : Fin 4} {x : Int64} {G : Int64 → Mo α} (d : decode y.2.2.1 pc = .ok (.lstore_n i, 1)) (hn : Nat.ble (i.val + 2) y.2.2.2.1 = true) (k : ∀ x, Sn cx y enc (pc + 1) (lst2 i.val (vJ x) ls) st (G x)) : Sn cx y enc pc ls (vJ x :: st) (mNm x G) := sn_lstore_n d hn (k x)
theorem sn_lstore {i : Nat} {x : Int64} (d : decode y.2.2.1 pc = .ok (.lstore i, 2)) (hn : Nat.ble (i + 2) y.2.2.2.1 = true) (k : Sn cx y enc (pc + 2) (lst2 i (vJ x) ls) st F) : Sn cx y enc pc ls (vJ x :: st) F :=
  ⟨k.1, fun ok h r h' hF hE H locs lsA hR hm hl => lv_lstore ok.1 ok.2.1 d hl (Nat.le_of_ble_eq_true hn) (lst2_eq cx i (vJ x) ls) (fun lsB hB => k.2 ok h r h' hF hE H locs lsB hR hm hB)⟩
theorem sn_lstoreM {i : Nat} {x : Int64} {G : Int64 → Mo α} (d : decode y.2.2.1 pc = .ok (.lstore i, 2)) (hn : Nat.ble (i + 2) y.2.2.2.1 = true) (k : ∀ x, Sn cx y enc (pc + 2) (lst2 i (vJ x) ls) st (G x)) : Sn cx y enc pc ls (vJ x :: st) (mNm x G) := sn_lstore d hn (k x)
theorem sn_astore_n {i : Fin 4} {x : Option Nat} (d : decode y.2.2.1 pc = .ok (.astore_n i, 1)) (hn : Nat.ble (i.val + 1) y.2.2.2.1 = true) (k : Sn cx y enc (pc + 1) (lst1 i.val (vA x) ls) st F) : Sn cx y enc pc ls (vA x :: st) F :=
  ⟨k.1, fun ok h r h' hF hE H locs lsA hR hm hl => by
    cases x with
    | none => exact lv_astore_nN ok.1 ok.2.1 d rfl hl (Nat.le_of_ble_eq_true hn) (lst1_eq cx i.val (vA none) ls) (fun lsB hB => k.2 ok h r h' hF hE H locs lsB hR hm hB)
    | some x => exact lv_astore_n ok.1 ok.2.1 d rfl hl (Nat.le_of_ble_eq_true hn) (lst1_eq cx i.val (vA (some x)) ls) (fun lsB hB => k.2 ok h r h' hF hE H locs lsB hR hm hB)⟩
theorem sn_astore {i : Nat} {x : Option Nat} (d : decode y.2.2.1 pc = .ok (.astore i, 2)) (hn : Nat.ble (i + 1) y.2.2.2.1 = true) (k : Sn cx y enc (pc + 2) (lst1 i (vA x) ls) st F) : Sn cx y enc pc ls (vA x :: st) F :=
  ⟨k.1, fun ok h r h' hF hE H locs lsA hR hm hl => by
    cases x with
    | none => exact lv_astoreN ok.1 ok.2.1 d hl (Nat.le_of_ble_eq_true hn) (lst1_eq cx i (vA none) ls) (fun lsB hB => k.2 ok h r h' hF hE H locs lsB hR hm hB)
    | some x => exact lv_astore ok.1 ok.2.1 d hl (Nat.le_of_ble_eq_true hn) (lst1_eq cx i (vA (some x)) ls) (fun lsB hB => k.2 ok h r h' hF hE H locs lsB hR hm hB)⟩
theorem sn_iinc {i : Nat} {n : Int} {x v : Int32} (d : decode y.2.2.1 pc = .ok (.iinc i n, 3)) (e : lgt ls i = some (vI x)) (hv : x + Int32.ofInt n = v) (hn : Nat.ble (i + 1) y.2.2.2.1 = true) (k : Sn cx y enc (pc + 3) (lst1 i (vI v) ls) st F) : Sn cx y enc pc ls st F :=
  ⟨k.1, fun ok h r h' hF hE H locs lsA hR hm hl => by
    obtain ⟨j, hj⟩ := List.getElem?_of_mem (List.mem_map.mpr ⟨(i, vI x), lgt_mem e, rfl⟩ : ((i, cvv cx.1 (vI x)) ∈ cvl cx ls))
    exact lv_iinc (k := j) ok.1 ok.2.1 d hl hj hv (Nat.le_of_ble_eq_true hn) (lst1_eq cx i (vI v) ls) (fun lsB hB => k.2 ok h r h' hF hE H locs lsB hR hm hB)⟩
theorem sn_iconst {n : Int} {v : Int32} (d : decode y.2.2.1 pc = .ok (.iconst n, 1)) (hv : Int32.ofInt n = v) (k : Sn cx y enc (pc + 1) ls (vI v :: st) F) : Sn cx y enc pc ls (st) F :=
  ⟨k.1, fun ok h r h' hF hE H locs lsA hR hm hl => lv_iconst ok.1 ok.2.1 d hv (k.2 ok h r h' hF hE H locs lsA hR hm hl)⟩
theorem sn_lconst {n : Fin 2} {v : Int64} (d : decode y.2.2.1 pc = .ok (.lconst n, 1)) (hv : Int64.ofNat (n : Nat) = v) (k : Sn cx y enc (pc + 1) ls (vJ v :: st) F) : Sn cx y enc pc ls (st) F :=
  ⟨k.1, fun ok h r h' hF hE H locs lsA hR hm hl => lv_lconst ok.1 ok.2.1 d hv (k.2 ok h r h' hF hE H locs lsA hR hm hl)⟩
theorem sn_bipush {n : Int} {v : Int32} (d : decode y.2.2.1 pc = .ok (.bipush n, 2)) (hv : (Int8.ofInt n).toInt32 = v) (k : Sn cx y enc (pc + 2) ls (vI v :: st) F) : Sn cx y enc pc ls (st) F :=
  ⟨k.1, fun ok h r h' hF hE H locs lsA hR hm hl => lv_bipush ok.1 ok.2.1 d hv (k.2 ok h r h' hF hE H locs lsA hR hm hl)⟩
theorem sn_sipush {n : Int} {v : Int32} (d : decode y.2.2.1 pc = .ok (.sipush n, 3)) (hv : (Int16.ofInt n).toInt32 = v) (k : Sn cx y enc (pc + 3) ls (vI v :: st) F) : Sn cx y enc pc ls (st) F :=
  ⟨k.1, fun ok h r h' hF hE H locs lsA hR hm hl => lv_sipush ok.1 ok.2.1 d hv (k.2 ok h r h' hF hE H locs lsA hR hm hl)⟩
theorem sn_anull  (d : decode y.2.2.1 pc = .ok (.aconst_null, 1)) (k : Sn cx y enc (pc + 1) ls (vA none :: st) F) : Sn cx y enc pc ls (st) F :=
  ⟨k.1, fun ok h r h' hF hE H locs lsA hR hm hl => lv_null ok.1 ok.2.1 d  (k.2 ok h r h' hF hE H locs lsA hR hm hl)⟩
theorem sn_iadd {x z : Int32} (d : decode y.2.2.1 pc = .ok (.iadd, 1)) (k : Sn cx y enc (pc + 1) ls (vI (z + x) :: st) F) : Sn cx y enc pc ls (vI x :: vI z :: st) F :=
  ⟨k.1, fun ok h r h' hF hE H locs lsA hR hm hl => lv_iadd ok.1 ok.2.1 d  (k.2 ok h r h' hF hE H locs lsA hR hm hl)⟩
theorem sn_isub {x z : Int32} (d : decode y.2.2.1 pc = .ok (.isub, 1)) (k : Sn cx y enc (pc + 1) ls (vI (z - x) :: st) F) : Sn cx y enc pc ls (vI x :: vI z :: st) F :=
  ⟨k.1, fun ok h r h' hF hE H locs lsA hR hm hl => lv_isub ok.1 ok.2.1 d  (k.2 ok h r h' hF hE H locs lsA hR hm hl)⟩
theorem sn_imul {x z : Int32} (d : decode y.2.2.1 pc = .ok (.imul, 1)) (k : Sn cx y enc (pc + 1) ls (vI (z * x) :: st) F) : Sn cx y enc pc ls (vI x :: vI z :: st) F :=
  ⟨k.1, fun ok h r h' hF hE H locs lsA hR hm hl => lv_imul ok.1 ok.2.1 d  (k.2 ok h r h' hF hE H locs lsA hR hm hl)⟩
theorem sn_iand {x z : Int32} (d : decode y.2.2.1 pc = .ok (.iand, 1)) (k : Sn cx y enc (pc + 1) ls (vI (z &&& x) :: st) F) : Sn cx y enc pc ls (vI x :: vI z :: st) F :=
  ⟨k.1, fun ok h r h' hF hE H locs lsA hR hm hl => lv_iand ok.1 ok.2.1 d  (k.2 ok h r h' hF hE H locs lsA hR hm hl)⟩
theorem sn_ixor {x z : Int32} (d : decode y.2.2.1 pc = .ok (.ixor, 1)) (k : Sn cx y enc (pc + 1) ls (vI (z ^^^ x) :: st) F) : Sn cx y enc pc ls (vI x :: vI z :: st) F :=
  ⟨k.1, fun ok h r h' hF hE H locs lsA hR hm hl => lv_ixor ok.1 ok.2.1 d  (k.2 ok h r h' hF hE H locs lsA hR hm hl)⟩
theorem sn_ladd {x z : Int64} (d : decode y.2.2.1 pc = .ok (.ladd, 1)) (k : Sn cx y enc (pc + 1) ls (vJ (z + x) :: st) F) : Sn cx y enc pc ls (vJ x :: vJ z :: st) F :=
  ⟨k.1, fun ok h r h' hF hE H locs lsA hR hm hl => lv_ladd ok.1 ok.2.1 d  (k.2 ok h r h' hF hE H locs lsA hR hm hl)⟩
theorem sn_lsub {x z : Int64} (d : decode y.2.2.1 pc = .ok (.lsub, 1)) (k : Sn cx y enc (pc + 1) ls (vJ (z - x) :: st) F) : Sn cx y enc pc ls (vJ x :: vJ z :: st) F :=
  ⟨k.1, fun ok h r h' hF hE H locs lsA hR hm hl => lv_lsub ok.1 ok.2.1 d  (k.2 ok h r h' hF hE H locs lsA hR hm hl)⟩
theorem sn_lmul {x z : Int64} (d : decode y.2.2.1 pc = .ok (.lmul, 1)) (k : Sn cx y enc (pc + 1) ls (vJ (z * x) :: st) F) : Sn cx y enc pc ls (vJ x :: vJ z :: st) F :=
  ⟨k.1, fun ok h r h' hF hE H locs lsA hR hm hl => lv_lmul ok.1 ok.2.1 d  (k.2 ok h r h' hF hE H locs lsA hR hm hl)⟩
theorem sn_lxor {x z : Int64} (d : decode y.2.2.1 pc = .ok (.lxor, 1)) (k : Sn cx y enc (pc + 1) ls (vJ (z ^^^ x) :: st) F) : Sn cx y enc pc ls (vJ x :: vJ z :: st) F :=
  ⟨k.1, fun ok h r h' hF hE H locs lsA hR hm hl => lv_lxor ok.1 ok.2.1 d  (k.2 ok h r h' hF hE H locs lsA hR hm hl)⟩
theorem sn_ineg {x : Int32} (d : decode y.2.2.1 pc = .ok (.ineg, 1)) (k : Sn cx y enc (pc + 1) ls (vI (-x) :: st) F) : Sn cx y enc pc ls (vI x :: st) F :=
  ⟨k.1, fun ok h r h' hF hE H locs lsA hR hm hl => lv_ineg ok.1 ok.2.1 d  (k.2 ok h r h' hF hE H locs lsA hR hm hl)⟩
theorem sn_lneg {x : Int64} (d : decode y.2.2.1 pc = .ok (.lneg, 1)) (k : Sn cx y enc (pc + 1) ls (vJ (-x) :: st) F) : Sn cx y enc pc ls (vJ x :: st) F :=
  ⟨k.1, fun ok h r h' hF hE H locs lsA hR hm hl => lv_lneg ok.1 ok.2.1 d  (k.2 ok h r h' hF hE H locs lsA hR hm hl)⟩
theorem sn_ishr {x z : Int32} (d : decode y.2.2.1 pc = .ok (.ishr, 1)) (k : Sn cx y enc (pc + 1) ls (vI (z >>> (x &&& 31)) :: st) F) : Sn cx y enc pc ls (vI x :: vI z :: st) F :=
  ⟨k.1, fun ok h r h' hF hE H locs lsA hR hm hl => lv_ishr ok.1 ok.2.1 d  (k.2 ok h r h' hF hE H locs lsA hR hm hl)⟩
theorem sn_ishl {x z : Int32} (d : decode y.2.2.1 pc = .ok (.ishl, 1)) (k : Sn cx y enc (pc + 1) ls (vI (z <<< (x &&& 31)) :: st) F) : Sn cx y enc pc ls (vI x :: vI z :: st) F :=
  ⟨k.1, fun ok h r h' hF hE H locs lsA hR hm hl => lv_ishl ok.1 ok.2.1 d  (k.2 ok h r h' hF hE H locs lsA hR hm hl)⟩
theorem sn_i2l {x : Int32} (d : decode y.2.2.1 pc = .ok (.i2l, 1)) (k : Sn cx y enc (pc + 1) ls (vJ x.toInt64 :: st) F) : Sn cx y enc pc ls (vI x :: st) F :=
  ⟨k.1, fun ok h r h' hF hE H locs lsA hR hm hl => lv_i2l ok.1 ok.2.1 d rfl (k.2 ok h r h' hF hE H locs lsA hR hm hl)⟩
theorem sn_l2i {x : Int64} (d : decode y.2.2.1 pc = .ok (.l2i, 1)) (k : Sn cx y enc (pc + 1) ls (vI x.toInt32 :: st) F) : Sn cx y enc pc ls (vJ x :: st) F :=
  ⟨k.1, fun ok h r h' hF hE H locs lsA hR hm hl => lv_l2i ok.1 ok.2.1 d rfl (k.2 ok h r h' hF hE H locs lsA hR hm hl)⟩
theorem sn_i2b {x : Int32} (d : decode y.2.2.1 pc = .ok (.i2b, 1)) (k : Sn cx y enc (pc + 1) ls (vI x.toInt8.toInt32 :: st) F) : Sn cx y enc pc ls (vI x :: st) F :=
  ⟨k.1, fun ok h r h' hF hE H locs lsA hR hm hl => lv_i2b ok.1 ok.2.1 d rfl (k.2 ok h r h' hF hE H locs lsA hR hm hl)⟩
theorem sn_i2c {x : Int32} (d : decode y.2.2.1 pc = .ok (.i2c, 1)) (k : Sn cx y enc (pc + 1) ls (vI (x.toUInt32 % 65536).toInt32 :: st) F) : Sn cx y enc pc ls (vI x :: st) F :=
  ⟨k.1, fun ok h r h' hF hE H locs lsA hR hm hl => lv_i2c ok.1 ok.2.1 d rfl (k.2 ok h r h' hF hE H locs lsA hR hm hl)⟩
theorem sn_lcmp {x z : Int64} (d : decode y.2.2.1 pc = .ok (.lcmp, 1)) (k : Sn cx y enc (pc + 1) ls (vI (lg_cmp z x) :: st) F) : Sn cx y enc pc ls (vJ x :: vJ z :: st) F :=
  ⟨k.1, fun ok h r h' hF hE H locs lsA hR hm hl => W.lcmp ok.1 ok.2.1 d  (k.2 ok h r h' hF hE H locs lsA hR hm hl)⟩
theorem sn_idiv {x z : Int32} (d : decode y.2.2.1 pc = .ok (.idiv, 1)) (k : Sn cx y enc (pc + 1) ls (vI (z / x) :: st) F) : Sn cx y enc pc ls (vI x :: vI z :: st) (mRq (¬ x = 0) F) := by
  by_cases hx : x = 0
  · refine ⟨fun h r h' e => ?_, fun ok h r h' e => ?_⟩ <;> · rw [mRq, if_neg (not_not_intro hx)] at e; cases e
  · rw [show mRq (¬ x = 0) F = F from if_pos hx]
    exact ⟨k.1, fun ok h r h' hF hE H locs lsA hR hm hl => lv_idiv ok.1 ok.2.1 d hx (k.2 ok h r h' hF hE H locs lsA hR hm hl)⟩
theorem sn_irem {x z : Int32} (d : decode y.2.2.1 pc = .ok (.irem, 1)) (k : Sn cx y enc (pc + 1) ls (vI (irem z x) :: st) F) : Sn cx y enc pc ls (vI x :: vI z :: st) (mRq (¬ x = 0) F) := by
  by_cases hx : x = 0
  · refine ⟨fun h r h' e => ?_, fun ok h r h' e => ?_⟩ <;> · rw [mRq, if_neg (not_not_intro hx)] at e; cases e
  · rw [show mRq (¬ x = 0) F = F from if_pos hx]
    exact ⟨k.1, fun ok h r h' hF hE H locs lsA hR hm hl => lv_irem ok.1 ok.2.1 d hx (k.2 ok h r h' hF hE H locs lsA hR hm hl)⟩
theorem sn_ldiv {x z : Int64} (d : decode y.2.2.1 pc = .ok (.ldiv, 1)) (k : Sn cx y enc (pc + 1) ls (vJ (z / x) :: st) F) : Sn cx y enc pc ls (vJ x :: vJ z :: st) (mRq (¬ x = 0) F) := by
  by_cases hx : x = 0
  · refine ⟨fun h r h' e => ?_, fun ok h r h' e => ?_⟩ <;> · rw [mRq, if_neg (not_not_intro hx)] at e; cases e
  · rw [show mRq (¬ x = 0) F = F from if_pos hx]
    exact ⟨k.1, fun ok h r h' hF hE H locs lsA hR hm hl => lv_ldiv ok.1 ok.2.1 d hx (k.2 ok h r h' hF hE H locs lsA hR hm hl)⟩
theorem sn_lrem {x z : Int64} (d : decode y.2.2.1 pc = .ok (.lrem, 1)) (k : Sn cx y enc (pc + 1) ls (vJ (lrem z x) :: st) F) : Sn cx y enc pc ls (vJ x :: vJ z :: st) (mRq (¬ x = 0) F) := by
  by_cases hx : x = 0
  · refine ⟨fun h r h' e => ?_, fun ok h r h' e => ?_⟩ <;> · rw [mRq, if_neg (not_not_intro hx)] at e; cases e
  · rw [show mRq (¬ x = 0) F = F from if_pos hx]
    exact ⟨k.1, fun ok h r h' hF hE H locs lsA hR hm hl => lv_lrem ok.1 ok.2.1 d hx (k.2 ok h r h' hF hE H locs lsA hR hm hl)⟩
theorem sn_idivC {x z : Int32} (hx : ¬ x = 0) (d : decode y.2.2.1 pc = .ok (.idiv, 1)) (k : Sn cx y enc (pc + 1) ls (vI (z / x) :: st) F) : Sn cx y enc pc ls (vI x :: vI z :: st) F :=
  ⟨k.1, fun ok h r h' hF hE H locs lsA hR hm hl => lv_idiv ok.1 ok.2.1 d hx (k.2 ok h r h' hF hE H locs lsA hR hm hl)⟩
theorem sn_iremC {x z : Int32} (hx : ¬ x = 0) (d : decode y.2.2.1 pc = .ok (.irem, 1)) (k : Sn cx y enc (pc + 1) ls (vI (irem z x) :: st) F) : Sn cx y enc pc ls (vI x :: vI z :: st) F :=
  ⟨k.1, fun ok h r h' hF hE H locs lsA hR hm hl => lv_irem ok.1 ok.2.1 d hx (k.2 ok h r h' hF hE H locs lsA hR hm hl)⟩
theorem sn_ldivC {x z : Int64} (hx : ¬ x = 0) (d : decode y.2.2.1 pc = .ok (.ldiv, 1)) (k : Sn cx y enc (pc + 1) ls (vJ (z / x) :: st) F) : Sn cx y enc pc ls (vJ x :: vJ z :: st) F :=
  ⟨k.1, fun ok h r h' hF hE H locs lsA hR hm hl => lv_ldiv ok.1 ok.2.1 d hx (k.2 ok h r h' hF hE H locs lsA hR hm hl)⟩
theorem sn_lremC {x z : Int64} (hx : ¬ x = 0) (d : decode y.2.2.1 pc = .ok (.lrem, 1)) (k : Sn cx y enc (pc + 1) ls (vJ (lrem z x) :: st) F) : Sn cx y enc pc ls (vJ x :: vJ z :: st) F :=
  ⟨k.1, fun ok h r h' hF hE H locs lsA hR hm hl => lv_lrem ok.1 ok.2.1 d hx (k.2 ok h r h' hF hE H locs lsA hR hm hl)⟩
theorem sn_dup {v : LV} (hv : isJ v = false) (d : decode y.2.2.1 pc = .ok (.dup, 1)) (k : Sn cx y enc (pc + 1) ls (v :: v :: st) F) : Sn cx y enc pc ls (v :: st) F :=
  ⟨k.1, fun ok h r h' hF hE H locs lsA hR hm hl => lv_dup ok.1 ok.2.1 d (cvv_cat1 cx.1 hv) (k.2 ok h r h' hF hE H locs lsA hR hm hl)⟩
theorem sn_pop {v : LV} (hv : isJ v = false) (d : decode y.2.2.1 pc = .ok (.pop, 1)) (k : Sn cx y enc (pc + 1) ls st F) : Sn cx y enc pc ls (v :: st) F :=
  ⟨k.1, fun ok h r h' hF hE H locs lsA hR hm hl => lv_pop ok.1 ok.2.1 d (cvv_cat1 cx.1 hv) (k.2 ok h r h' hF hE H locs lsA hR hm hl)⟩
theorem sn_dup2 {v w : LV} (hv : isJ v = false) (hw : isJ w = false) (d : decode y.2.2.1 pc = .ok (.dup2, 1)) (k : Sn cx y enc (pc + 1) ls (v :: w :: v :: w :: st) F) : Sn cx y enc pc ls (v :: w :: st) F :=
  ⟨k.1, fun ok h r h' hF hE H locs lsA hR hm hl => lv_dup2_11 ok.1 ok.2.1 d (cvv_cat1 cx.1 hv) (cvv_cat1 cx.1 hw) (k.2 ok h r h' hF hE H locs lsA hR hm hl)⟩
theorem sn_pop2 {x : Int64} (d : decode y.2.2.1 pc = .ok (.pop2, 1)) (k : Sn cx y enc (pc + 1) ls st F) : Sn cx y enc pc ls (vJ x :: st) F :=
  ⟨k.1, fun ok h r h' hF hE H locs lsA hR hm hl => lv_pop2_2 ok.1 ok.2.1 d rfl (k.2 ok h r h' hF hE H locs lsA hR hm hl)⟩
theorem sn_goto {off : Int} {tgt : Nat} (d : decode y.2.2.1 pc = .ok (.goto off, 3)) (ht : (pc : Int) + off = (tgt : Int)) (k : Sn cx y enc tgt ls st F) : Sn cx y enc pc ls st F :=
  ⟨k.1, fun ok h r h' hF hE H locs lsA hR hm hl => lv_goto ok.1 ok.2.1 d ht (k.2 ok h r h' hF hE H locs lsA hR hm hl)⟩
theorem sn_icmp_eq {x z : Int32} {off : Int} {tgt : Nat} {F1 F2 : Mo α} (d : decode y.2.2.1 pc = .ok (.if_icmp .eq off, 3)) (ht : (pc : Int) + off = (tgt : Int)) (kt : z = x → Sn cx y enc tgt ls st F1) (kf : ¬ (z = x) → Sn cx y enc (pc + 3) ls st F2) : Sn cx y enc pc ls (vI x :: vI z :: st) (if z = x then F1 else F2) := by
  by_cases hc : z = x
  · rw [if_pos hc]
    exact ⟨(kt hc).1, fun ok h r h' hF hE H locs lsA hR hm hl => lv_icmp_eq ok.1 ok.2.1 d ht (fun _ => (kt hc).2 ok h r h' hF hE H locs lsA hR hm hl) (fun q => absurd hc q)⟩
  · rw [if_neg hc]
    exact ⟨(kf hc).1, fun ok h r h' hF hE H locs lsA hR hm hl => lv_icmp_eq ok.1 ok.2.1 d ht (fun q => absurd q hc) (fun _ => (kf hc).2 ok h r h' hF hE H locs lsA hR hm hl)⟩
theorem sn_icmp_ne {x z : Int32} {off : Int} {tgt : Nat} {F1 F2 : Mo α} (d : decode y.2.2.1 pc = .ok (.if_icmp .ne off, 3)) (ht : (pc : Int) + off = (tgt : Int)) (kt : ¬ z = x → Sn cx y enc tgt ls st F1) (kf : ¬ (¬ z = x) → Sn cx y enc (pc + 3) ls st F2) : Sn cx y enc pc ls (vI x :: vI z :: st) (if ¬ z = x then F1 else F2) := by
  by_cases hc : ¬ z = x
  · rw [if_pos hc]
    exact ⟨(kt hc).1, fun ok h r h' hF hE H locs lsA hR hm hl => lv_icmp_ne ok.1 ok.2.1 d ht (fun _ => (kt hc).2 ok h r h' hF hE H locs lsA hR hm hl) (fun q => absurd q hc)⟩
  · rw [if_neg hc]
    exact ⟨(kf hc).1, fun ok h r h' hF hE H locs lsA hR hm hl => lv_icmp_ne ok.1 ok.2.1 d ht (fun q => absurd q hc) (fun _ => (kf hc).2 ok h r h' hF hE H locs lsA hR hm hl)⟩
theorem sn_icmp_lt {x z : Int32} {off : Int} {tgt : Nat} {F1 F2 : Mo α} (d : decode y.2.2.1 pc = .ok (.if_icmp .lt off, 3)) (ht : (pc : Int) + off = (tgt : Int)) (kt : z < x → Sn cx y enc tgt ls st F1) (kf : ¬ (z < x) → Sn cx y enc (pc + 3) ls st F2) : Sn cx y enc pc ls (vI x :: vI z :: st) (if z < x then F1 else F2) := by
  by_cases hc : z < x
  · rw [if_pos hc]
    exact ⟨(kt hc).1, fun ok h r h' hF hE H locs lsA hR hm hl => lv_icmp_lt ok.1 ok.2.1 d ht (fun _ => (kt hc).2 ok h r h' hF hE H locs lsA hR hm hl) (fun q => absurd hc q)⟩
  · rw [if_neg hc]
    exact ⟨(kf hc).1, fun ok h r h' hF hE H locs lsA hR hm hl => lv_icmp_lt ok.1 ok.2.1 d ht (fun q => absurd q hc) (fun _ => (kf hc).2 ok h r h' hF hE H locs lsA hR hm hl)⟩
theorem sn_icmp_ge {x z : Int32} {off : Int} {tgt : Nat} {F1 F2 : Mo α} (d : decode y.2.2.1 pc = .ok (.if_icmp .ge off, 3)) (ht : (pc : Int) + off = (tgt : Int)) (kt : z ≥ x → Sn cx y enc tgt ls st F1) (kf : ¬ (z ≥ x) → Sn cx y enc (pc + 3) ls st F2) : Sn cx y enc pc ls (vI x :: vI z :: st) (if z ≥ x then F1 else F2) := by
  by_cases hc : z ≥ x
  · rw [if_pos hc]
    exact ⟨(kt hc).1, fun ok h r h' hF hE H locs lsA hR hm hl => lv_icmp_ge ok.1 ok.2.1 d ht (fun _ => (kt hc).2 ok h r h' hF hE H locs lsA hR hm hl) (fun q => absurd hc q)⟩
  · rw [if_neg hc]
    exact ⟨(kf hc).1, fun ok h r h' hF hE H locs lsA hR hm hl => lv_icmp_ge ok.1 ok.2.1 d ht (fun q => absurd q hc) (fun _ => (kf hc).2 ok h r h' hF hE H locs lsA hR hm hl)⟩
theorem sn_icmp_gt {x z : Int32} {off : Int} {tgt : Nat} {F1 F2 : Mo α} (d : decode y.2.2.1 pc = .ok (.if_icmp .gt off, 3)) (ht : (pc : Int) + off = (tgt : Int)) (kt : z > x → Sn cx y enc tgt ls st F1) (kf : ¬ (z > x) → Sn cx y enc (pc + 3) ls st F2) : Sn cx y enc pc ls (vI x :: vI z :: st) (if z > x then F1 else F2) := by
  by_cases hc : z > x
  · rw [if_pos hc]
    exact ⟨(kt hc).1, fun ok h r h' hF hE H locs lsA hR hm hl => lv_icmp_gt ok.1 ok.2.1 d ht (fun _ => (kt hc).2 ok h r h' hF hE H locs lsA hR hm hl) (fun q => absurd hc q)⟩
  · rw [if_neg hc]
    exact ⟨(kf hc).1, fun ok h r h' hF hE H locs lsA hR hm hl => lv_icmp_gt ok.1 ok.2.1 d ht (fun q => absurd q hc) (fun _ => (kf hc).2 ok h r h' hF hE H locs lsA hR hm hl)⟩
theorem sn_icmp_le {x z : Int32} {off : Int} {tgt : Nat} {F1 F2 : Mo α} (d : decode y.2.2.1 pc = .ok (.if_icmp .le off, 3)) (ht : (pc : Int) + off = (tgt : Int)) (kt : z ≤ x → Sn cx y enc tgt ls st F1) (kf : ¬ (z ≤ x) → Sn cx y enc (pc + 3) ls st F2) : Sn cx y enc pc ls (vI x :: vI z :: st) (if z ≤ x then F1 else F2) := by
  by_cases hc : z ≤ x
  · rw [if_pos hc]
    exact ⟨(kt hc).1, fun ok h r h' hF hE H locs lsA hR hm hl => lv_icmp_le ok.1 ok.2.1 d ht (fun _ => (kt hc).2 ok h r h' hF hE H locs lsA hR hm hl) (fun q => absurd hc q)⟩
  · rw [if_neg hc]
    exact ⟨(kf hc).1, fun ok h r h' hF hE H locs lsA hR hm hl => lv_icmp_le ok.1 ok.2.1 d ht (fun q => absurd q hc) (fun _ => (kf hc).2 ok h r h' hF hE H locs lsA hR hm hl)⟩
theorem sn_if_eq {x : Int32} {off : Int} {tgt : Nat} {F1 F2 : Mo α} (d : decode y.2.2.1 pc = .ok (.ifCond .eq off, 3)) (ht : (pc : Int) + off = (tgt : Int)) (kt : x = 0 → Sn cx y enc tgt ls st F1) (kf : ¬ (x = 0) → Sn cx y enc (pc + 3) ls st F2) : Sn cx y enc pc ls (vI x :: st) (if x = 0 then F1 else F2) := by
  by_cases hc : x = 0
  · rw [if_pos hc]
    exact ⟨(kt hc).1, fun ok h r h' hF hE H locs lsA hR hm hl => lv_if_eq ok.1 ok.2.1 d ht (fun _ => (kt hc).2 ok h r h' hF hE H locs lsA hR hm hl) (fun q => absurd hc q)⟩
  · rw [if_neg hc]
    exact ⟨(kf hc).1, fun ok h r h' hF hE H locs lsA hR hm hl => lv_if_eq ok.1 ok.2.1 d ht (fun q => absurd q hc) (fun _ => (kf hc).2 ok h r h' hF hE H locs lsA hR hm hl)⟩
theorem sn_if_ne {x : Int32} {off : Int} {tgt : Nat} {F1 F2 : Mo α} (d : decode y.2.2.1 pc = .ok (.ifCond .ne off, 3)) (ht : (pc : Int) + off = (tgt : Int)) (kt : ¬ x = 0 → Sn cx y enc tgt ls st F1) (kf : ¬ (¬ x = 0) → Sn cx y enc (pc + 3) ls st F2) : Sn cx y enc pc ls (vI x :: st) (if ¬ x = 0 then F1 else F2) := by
  by_cases hc : ¬ x = 0
  · rw [if_pos hc]
    exact ⟨(kt hc).1, fun ok h r h' hF hE H locs lsA hR hm hl => lv_if_ne ok.1 ok.2.1 d ht (fun _ => (kt hc).2 ok h r h' hF hE H locs lsA hR hm hl) (fun q => absurd q hc)⟩
  · rw [if_neg hc]
    exact ⟨(kf hc).1, fun ok h r h' hF hE H locs lsA hR hm hl => lv_if_ne ok.1 ok.2.1 d ht (fun q => absurd q hc) (fun _ => (kf hc).2 ok h r h' hF hE H locs lsA hR hm hl)⟩
theorem sn_if_lt {x : Int32} {off : Int} {tgt : Nat} {F1 F2 : Mo α} (d : decode y.2.2.1 pc = .ok (.ifCond .lt off, 3)) (ht : (pc : Int) + off = (tgt : Int)) (kt : x < 0 → Sn cx y enc tgt ls st F1) (kf : ¬ (x < 0) → Sn cx y enc (pc + 3) ls st F2) : Sn cx y enc pc ls (vI x :: st) (if x < 0 then F1 else F2) := by
  by_cases hc : x < 0
  · rw [if_pos hc]
    exact ⟨(kt hc).1, fun ok h r h' hF hE H locs lsA hR hm hl => lv_if_lt ok.1 ok.2.1 d ht (fun _ => (kt hc).2 ok h r h' hF hE H locs lsA hR hm hl) (fun q => absurd hc q)⟩
  · rw [if_neg hc]
    exact ⟨(kf hc).1, fun ok h r h' hF hE H locs lsA hR hm hl => lv_if_lt ok.1 ok.2.1 d ht (fun q => absurd q hc) (fun _ => (kf hc).2 ok h r h' hF hE H locs lsA hR hm hl)⟩
theorem sn_if_ge {x : Int32} {off : Int} {tgt : Nat} {F1 F2 : Mo α} (d : decode y.2.2.1 pc = .ok (.ifCond .ge off, 3)) (ht : (pc : Int) + off = (tgt : Int)) (kt : x ≥ 0 → Sn cx y enc tgt ls st F1) (kf : ¬ (x ≥ 0) → Sn cx y enc (pc + 3) ls st F2) : Sn cx y enc pc ls (vI x :: st) (if x ≥ 0 then F1 else F2) := by
  by_cases hc : x ≥ 0
  · rw [if_pos hc]
    exact ⟨(kt hc).1, fun ok h r h' hF hE H locs lsA hR hm hl => lv_if_ge ok.1 ok.2.1 d ht (fun _ => (kt hc).2 ok h r h' hF hE H locs lsA hR hm hl) (fun q => absurd hc q)⟩
  · rw [if_neg hc]
    exact ⟨(kf hc).1, fun ok h r h' hF hE H locs lsA hR hm hl => lv_if_ge ok.1 ok.2.1 d ht (fun q => absurd q hc) (fun _ => (kf hc).2 ok h r h' hF hE H locs lsA hR hm hl)⟩
theorem sn_if_gt {x : Int32} {off : Int} {tgt : Nat} {F1 F2 : Mo α} (d : decode y.2.2.1 pc = .ok (.ifCond .gt off, 3)) (ht : (pc : Int) + off = (tgt : Int)) (kt : x > 0 → Sn cx y enc tgt ls st F1) (kf : ¬ (x > 0) → Sn cx y enc (pc + 3) ls st F2) : Sn cx y enc pc ls (vI x :: st) (if x > 0 then F1 else F2) := by
  by_cases hc : x > 0
  · rw [if_pos hc]
    exact ⟨(kt hc).1, fun ok h r h' hF hE H locs lsA hR hm hl => lv_if_gt ok.1 ok.2.1 d ht (fun _ => (kt hc).2 ok h r h' hF hE H locs lsA hR hm hl) (fun q => absurd hc q)⟩
  · rw [if_neg hc]
    exact ⟨(kf hc).1, fun ok h r h' hF hE H locs lsA hR hm hl => lv_if_gt ok.1 ok.2.1 d ht (fun q => absurd q hc) (fun _ => (kf hc).2 ok h r h' hF hE H locs lsA hR hm hl)⟩
theorem sn_if_le {x : Int32} {off : Int} {tgt : Nat} {F1 F2 : Mo α} (d : decode y.2.2.1 pc = .ok (.ifCond .le off, 3)) (ht : (pc : Int) + off = (tgt : Int)) (kt : x ≤ 0 → Sn cx y enc tgt ls st F1) (kf : ¬ (x ≤ 0) → Sn cx y enc (pc + 3) ls st F2) : Sn cx y enc pc ls (vI x :: st) (if x ≤ 0 then F1 else F2) := by
  by_cases hc : x ≤ 0
  · rw [if_pos hc]
    exact ⟨(kt hc).1, fun ok h r h' hF hE H locs lsA hR hm hl => lv_if_le ok.1 ok.2.1 d ht (fun _ => (kt hc).2 ok h r h' hF hE H locs lsA hR hm hl) (fun q => absurd hc q)⟩
  · rw [if_neg hc]
    exact ⟨(kf hc).1, fun ok h r h' hF hE H locs lsA hR hm hl => lv_if_le ok.1 ok.2.1 d ht (fun q => absurd q hc) (fun _ => (kf hc).2 ok h r h' hF hE H locs lsA hR hm hl)⟩
theorem sn_ifnull {x : Option Nat} {off : Int} {tgt : Nat} {F1 F2 : Mo α} (d : decode y.2.2.1 pc = .ok (.ifnull off, 3)) (ht : (pc : Int) + off = (tgt : Int)) (kt : Sn cx y enc tgt ls st F1) (kf : Sn cx y enc (pc + 3) ls st F2) : Sn cx y enc pc ls (vA x :: st) (if x = none then F1 else F2) := by
  cases x with
  | none =>
    rw [if_pos rfl]
    exact ⟨kt.1, fun ok h r h' hF hE H locs lsA hR hm hl => lv_ifnullN ok.1 ok.2.1 d ht (kt.2 ok h r h' hF hE H locs lsA hR hm hl)⟩
  | some x =>
    rw [if_neg (fun q => by cases q)]
    exact ⟨kf.1, fun ok h r h' hF hE H locs lsA hR hm hl => lv_ifnull ok.1 ok.2.1 d (kf.2 ok h r h' hF hE H locs lsA hR hm hl)⟩
theorem sn_ifnonnull {x : Option Nat} {off : Int} {tgt : Nat} {F1 F2 : Mo α} (d : decode y.2.2.1 pc = .ok (.ifnonnull off, 3)) (ht : (pc : Int) + off = (tgt : Int)) (kf : Sn cx y enc (pc + 3) ls st F1) (kt : Sn cx y enc tgt ls st F2) : Sn cx y enc pc ls (vA x :: st) (if x = none then F1 else F2) := by
  cases x with
  | none =>
    rw [if_pos rfl]
    exact ⟨kf.1, fun ok h r h' hF hE H locs lsA hR hm hl => lv_ifnonnullN ok.1 ok.2.1 d (kf.2 ok h r h' hF hE H locs lsA hR hm hl)⟩
  | some x =>
    rw [if_neg (fun q => by cases q)]
    exact ⟨kt.1, fun ok h r h' hF hE H locs lsA hR hm hl => lv_ifnonnull ok.1 ok.2.1 d ht (kt.2 ok h r h' hF hE H locs lsA hR hm hl)⟩
theorem sn_lc_eq {x z : Int64} {off : Int} {tgt : Nat} {F1 F2 : Mo α} (d : decode y.2.2.1 pc = .ok (.lcmp, 1)) (d2 : decode y.2.2.1 (pc + 1) = .ok (.ifCond .eq off, 3)) (ht : ((pc + 1 : Nat) : Int) + off = (tgt : Int)) (kt : z = x → Sn cx y enc tgt ls st F1) (kf : ¬ (z = x) → Sn cx y enc (pc + 4) ls st F2) : Sn cx y enc pc ls (vJ x :: vJ z :: st) (if z = x then F1 else F2) := by
  refine sn_lcmp d ?_
  have e := lgc_eq z x
  have e2 : (if z = x then F1 else F2) = (if lg_cmp z x = 0 then F1 else F2) := by
    by_cases hc : z = x
    · rw [if_pos hc, if_pos (e.mpr hc)]
    · rw [if_neg hc, if_neg (fun q => hc (e.mp q))]
  rw [e2]
  exact sn_if_eq d2 ht (fun q => kt (e.mp q)) (fun q => kf (fun q2 => q (e.mpr q2)))
theorem sn_lc_ne {x z : Int64} {off : Int} {tgt : Nat} {F1 F2 : Mo α} (d : decode y.2.2.1 pc = .ok (.lcmp, 1)) (d2 : decode y.2.2.1 (pc + 1) = .ok (.ifCond .ne off, 3)) (ht : ((pc + 1 : Nat) : Int) + off = (tgt : Int)) (kt : ¬ z = x → Sn cx y enc tgt ls st F1) (kf : ¬ (¬ z = x) → Sn cx y enc (pc + 4) ls st F2) : Sn cx y enc pc ls (vJ x :: vJ z :: st) (if ¬ z = x then F1 else F2) := by
  refine sn_lcmp d ?_
  have e := lgc_ne z x
  have e2 : (if ¬ z = x then F1 else F2) = (if ¬ lg_cmp z x = 0 then F1 else F2) := by
    by_cases hc : ¬ z = x
    · rw [if_pos hc, if_pos (e.mpr hc)]
    · rw [if_neg hc, if_neg (fun q => hc (e.mp q))]
  rw [e2]
  exact sn_if_ne d2 ht (fun q => kt (e.mp q)) (fun q => kf (fun q2 => q (e.mpr q2)))
theorem sn_lc_lt {x z : Int64} {off : Int} {tgt : Nat} {F1 F2 : Mo α} (d : decode y.2.2.1 pc = .ok (.lcmp, 1)) (d2 : decode y.2.2.1 (pc + 1) = .ok (.ifCond .lt off, 3)) (ht : ((pc + 1 : Nat) : Int) + off = (tgt : Int)) (kt : z < x → Sn cx y enc tgt ls st F1) (kf : ¬ (z < x) → Sn cx y enc (pc + 4) ls st F2) : Sn cx y enc pc ls (vJ x :: vJ z :: st) (if z < x then F1 else F2) := by
  refine sn_lcmp d ?_
  have e := lgc_lt z x
  have e2 : (if z < x then F1 else F2) = (if lg_cmp z x < 0 then F1 else F2) := by
    by_cases hc : z < x
    · rw [if_pos hc, if_pos (e.mpr hc)]
    · rw [if_neg hc, if_neg (fun q => hc (e.mp q))]
  rw [e2]
  exact sn_if_lt d2 ht (fun q => kt (e.mp q)) (fun q => kf (fun q2 => q (e.mpr q2)))
theorem sn_lc_ge {x z : Int64} {off : Int} {tgt : Nat} {F1 F2 : Mo α} (d : decode y.2.2.1 pc = .ok (.lcmp, 1)) (d2 : decode y.2.2.1 (pc + 1) = .ok (.ifCond .ge off, 3)) (ht : ((pc + 1 : Nat) : Int) + off = (tgt : Int)) (kt : z ≥ x → Sn cx y enc tgt ls st F1) (kf : ¬ (z ≥ x) → Sn cx y enc (pc + 4) ls st F2) : Sn cx y enc pc ls (vJ x :: vJ z :: st) (if z ≥ x then F1 else F2) := by
  refine sn_lcmp d ?_
  have e := lgc_ge z x
  have e2 : (if z ≥ x then F1 else F2) = (if lg_cmp z x ≥ 0 then F1 else F2) := by
    by_cases hc : z ≥ x
    · rw [if_pos hc, if_pos (e.mpr hc)]
    · rw [if_neg hc, if_neg (fun q => hc (e.mp q))]
  rw [e2]
  exact sn_if_ge d2 ht (fun q => kt (e.mp q)) (fun q => kf (fun q2 => q (e.mpr q2)))
theorem sn_lc_gt {x z : Int64} {off : Int} {tgt : Nat} {F1 F2 : Mo α} (d : decode y.2.2.1 pc = .ok (.lcmp, 1)) (d2 : decode y.2.2.1 (pc + 1) = .ok (.ifCond .gt off, 3)) (ht : ((pc + 1 : Nat) : Int) + off = (tgt : Int)) (kt : z > x → Sn cx y enc tgt ls st F1) (kf : ¬ (z > x) → Sn cx y enc (pc + 4) ls st F2) : Sn cx y enc pc ls (vJ x :: vJ z :: st) (if z > x then F1 else F2) := by
  refine sn_lcmp d ?_
  have e := lgc_gt z x
  have e2 : (if z > x then F1 else F2) = (if lg_cmp z x > 0 then F1 else F2) := by
    by_cases hc : z > x
    · rw [if_pos hc, if_pos (e.mpr hc)]
    · rw [if_neg hc, if_neg (fun q => hc (e.mp q))]
  rw [e2]
  exact sn_if_gt d2 ht (fun q => kt (e.mp q)) (fun q => kf (fun q2 => q (e.mpr q2)))
theorem sn_lc_le {x z : Int64} {off : Int} {tgt : Nat} {F1 F2 : Mo α} (d : decode y.2.2.1 pc = .ok (.lcmp, 1)) (d2 : decode y.2.2.1 (pc + 1) = .ok (.ifCond .le off, 3)) (ht : ((pc + 1 : Nat) : Int) + off = (tgt : Int)) (kt : z ≤ x → Sn cx y enc tgt ls st F1) (kf : ¬ (z ≤ x) → Sn cx y enc (pc + 4) ls st F2) : Sn cx y enc pc ls (vJ x :: vJ z :: st) (if z ≤ x then F1 else F2) := by
  refine sn_lcmp d ?_
  have e := lgc_le z x
  have e2 : (if z ≤ x then F1 else F2) = (if lg_cmp z x ≤ 0 then F1 else F2) := by
    by_cases hc : z ≤ x
    · rw [if_pos hc, if_pos (e.mpr hc)]
    · rw [if_neg hc, if_neg (fun q => hc (e.mp q))]
  rw [e2]
  exact sn_if_le d2 ht (fun q => kt (e.mp q)) (fun q => kf (fun q2 => q (e.mpr q2)))
theorem sn_tabC {dflt lo hi off : Int} {offs : Array Int} {len tgt : Nat} {x v : Int32} {n : Int} {F1 F2 : Mo α} (d : decode y.2.2.1 pc = .ok (.tableswitch dflt lo hi offs, len)) (hvn : v.toInt = n) (hv : ¬ v.toInt < lo ∧ ¬ hi < v.toInt) (ho : offs[(v.toInt - lo).toNat]? = some off) (ht : (pc : Int) + off = (tgt : Int)) (kt : Sn cx y enc tgt ls st F1) (kf : ¬ x.toInt = n → Sn cx y enc pc ls (vI x :: st) F2) : Sn cx y enc pc ls (vI x :: st) (if x = v then F1 else F2) := by
  by_cases hc : x = v
  · rw [if_pos hc]
    subst hc
    exact ⟨kt.1, fun ok h r h' hF hE H locs lsA hR hm hl => lv_tableIn ok.1 ok.2.1 d hv.1 hv.2 ho ht (kt.2 ok h r h' hF hE H locs lsA hR hm hl)⟩
  · rw [if_neg hc]
    exact kf (fun q => hc (Int32.toInt_inj.mp (q.trans hvn.symm)))
theorem sn_tabD {dflt lo hi : Int} {offs : Array Int} {len tgt : Nat} {x : Int32} (d : decode y.2.2.1 pc = .ok (.tableswitch dflt lo hi offs, len)) (hx : x.toInt < lo ∨ hi < x.toInt) (ht : (pc : Int) + dflt = (tgt : Int)) (k : Sn cx y enc tgt ls st F) : Sn cx y enc pc ls (vI x :: st) F :=
  ⟨k.1, fun ok h r h' hF hE H locs lsA hR hm hl => lv_tableOut ok.1 ok.2.1 d hx ht (k.2 ok h r h' hF hE H locs lsA hR hm hl)⟩
theorem sn_sub {ls' : List (Nat × LV)} (e : ls'.map (fun q => lgt ls q.1) = ls'.map (fun q => some q.2)) (k : Sn cx y enc pc ls' st F) : Sn cx y enc pc ls st F :=
  ⟨k.1, fun ok h r h' hF hE H locs lsA hR hm hl => k.2 ok h r h' hF hE H locs lsA hR hm ⟨hl.1, hl.2.1, fun q hq => by
    obtain ⟨z, hz, rfl⟩ := List.mem_map.mp hq
    have h1 : lgt ls z.1 = some z.2 := by
      have h2 := List.map_inj_left.mp e z hz
      exact h2
    exact lgt_at hl h1⟩⟩
end SNQ
