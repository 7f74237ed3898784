/-! ===== locals ===== -/
def isJ : LV → Bool
  | .inl _ => false
  | .inr (.inl _) => true
  | .inr (.inr _) => false
def lgt : List (Nat × LV) → Nat → Option LV
  | [], _ => none
  | q :: l, i => cond (Nat.beq q.1 i) (some q.2) (lgt l i)
def lst1 (i : Nat) (v : LV) (ls : List (Nat × LV)) : List (Nat × LV) := (i, v) :: ls.filter (fun q => !(Nat.beq q.1 i) && !(Nat.beq (q.1 + 1) i && isJ q.2))
def lst2 (i : Nat) (v : LV) (ls : List (Nat × LV)) : List (Nat × LV) := (i, v) :: ls.filter (fun q => !(Nat.beq q.1 i) && (!(Nat.beq q.1 (i + 1)) && !(Nat.beq (q.1 + 1) i && isJ q.2)))
theorem lgt_mem {i : Nat} {v : LV} : ∀ {ls : List (Nat × LV)}, lgt ls i = some v → (i, v) ∈ ls
  | [], h => by cases h
  | q :: l, h => by
    unfold lgt at h
    cases hb : Nat.beq q.1 i with
    | true =>
      rw [hb] at h
      have e1 : q.1 = i := Nat.eq_of_beq_eq_true hb
      have e2 : q.2 = v := Option.some.inj h
      exact List.mem_cons.mpr (Or.inl (by rw [← e1, ← e2]))
    | false =>
      rw [hb] at h
      exact List.mem_cons_of_mem _ (lgt_mem h)
theorem cvv_cat (g : Gl) (v : LV) : ((cvv g v).category == 2) = isJ v := by
  rcases v with x | x | (_ | x) <;> rfl
theorem lgt_at {cx : CX} {lsA : Array Slot} {nL i : Nat} {v : LV} {ls : List (Nat × LV)} (h : lv_has lsA nL (cvl cx ls)) (hi : lgt ls i = some v) : lsA[i]? = some (.val (cvv cx.1 v)) :=
  h.2.2 (i, cvv cx.1 v) (List.mem_map.mpr ⟨(i, v), lgt_mem hi, rfl⟩)
theorem lst1_eq (cx : CX) (i : Nat) (v : LV) (ls : List (Nat × LV)) : (i, cvv cx.1 v) :: (cvl cx ls).filter (fun q => !(q.1 == i) && !(q.1 + 1 == i && q.2.category == 2)) = cvl cx (lst1 i v ls) := by
  unfold cvl lst1
  rw [List.map_cons, List.filter_map]
  congr 2
  apply List.filter_congr
  intro q _
  show (!(q.1 == i) && !(q.1 + 1 == i && (cvv cx.1 q.2).category == 2)) = _
  rw [cvv_cat]
  rfl
theorem lst2_eq (cx : CX) (i : Nat) (v : LV) (ls : List (Nat × LV)) : (i, cvv cx.1 v) :: (cvl cx ls).filter (fun q => !(q.1 == i) && (!(q.1 == i + 1) && !(q.1 + 1 == i && q.2.category == 2))) = cvl cx (lst2 i v ls) := by
  unfold cvl lst2
  rw [List.map_cons, List.filter_map]
  congr 2
  apply List.filter_congr
  intro q _
  show (!(q.1 == i) && (!(q.1 == i + 1) && !(q.1 + 1 == i && (cvv cx.1 q.2).category == 2))) = _
  rw [cvv_cat]
  rfl
section SNP
variable {α : Type} {cx : CX} {y : MD} {enc : α → Option LV} {pc : Nat} {ls : List (Nat × LV)} {st : List LV} {F : Mo α}
theorem sn_iadd {x z : Int32} (d : decode y.2.2.1 pc = .ok (.iadd, 1)) (k : Sn cx y enc (pc + 1) ls (vI (z + x) :: st) F) : Sn cx y enc pc ls (vI x :: vI z :: st) F :=
  ⟨k.1, fun ok h r h' hF hE H locs lsA hR hm hl => lv_iadd ok.1 ok.2.1 d (k.2 ok h r h' hF hE H locs lsA hR hm hl)⟩
theorem sn_iload_n {i : Fin 4} {x : Int32} (d : decode y.2.2.1 pc = .ok (.iload_n i, 1)) (e : lgt ls i.val = some (vI x)) (k : Sn cx y enc (pc + 1) ls (vI x :: st) F) : Sn cx y enc pc ls st F :=
  ⟨k.1, fun ok h r h' hF hE H locs lsA hR hm hl => lv_iload_n ok.1 ok.2.1 d rfl (lgt_at hl e) (k.2 ok h r h' hF hE H locs lsA hR hm hl)⟩
theorem sn_istore_n {i : Fin 4} {x : Int32} (d : decode y.2.2.1 pc = .ok (.istore_n i, 1)) (hn : Nat.ble (i.val + 1) y.2.2.2.1 = true) (k : Sn cx y enc (pc + 1) (lst1 i.val (vI x) ls) st F) : Sn cx y enc pc ls (vI x :: st) F :=
  ⟨k.1, fun ok h r h' hF hE H locs lsA hR hm hl => lv_istore_n ok.1 ok.2.1 d rfl hl (Nat.le_of_ble_eq_true hn) (lst1_eq cx i.val (vI x) ls) (fun lsB hB => k.2 ok h r h' hF hE H locs lsB hR hm hB)⟩
end SNP
