theorem tg_int {t : FieldType} (h : tg t = 0) : t = .int := by cases t <;> first | rfl | cases h
theorem tg_long {t : FieldType} (h : tg t = 1) : t = .long := by cases t <;> first | rfl | cases h
theorem tg_bool {t : FieldType} (h : tg t = 3) : t = .boolean := by cases t <;> first | rfl | cases h
theorem tg_ref {t : FieldType} (h : tg t = 2) (o : Option Nat) : narrow t (va_rf o) = va_rf o ∧ fits t (va_rf o) = true := by
  cases t <;> first | (cases o <;> exact ⟨rfl, rfl⟩) | cases h
theorem st1_ne {α : Type} {f : Nat → α} {a b : Nat} {x : α} (h : b ≠ a) : st1 f a x b = f b := if_neg h
theorem st1_eq {α : Type} {f : Nat → α} {a : Nat} {x : α} : st1 f a x a = x := if_pos rfl
theorem fv_tagI {g : Gl} {h : Hp} {a c k : Nat} (t : (fT c).getD k 0 = 0 ∨ (fT c).getD k 0 = 3) : fv g h a c k = .int (h.2.1 a k) := by
  unfold fv
  rcases t with t | t <;> (rw [t]; rfl)
theorem fv_tagJ {g : Gl} {h : Hp} {a c k : Nat} (t : (fT c).getD k 0 = 1) : fv g h a c k = .long (h.2.2.1 a k) := by
  unfold fv
  rw [t]
  rfl
theorem fv_tagA {g : Gl} {h : Hp} {a c k : Nat} (t : (fT c).getD k 0 = 2) : fv g h a c k = va_rf ((h.2.2.2 a k).map (ad g)) := by
  unfold fv
  rw [t]
  rfl
theorem fv_cong {g : Gl} {h h1 : Hp} {a c k : Nat} (hI : h1.2.1 a k = h.2.1 a k) (hJ : h1.2.2.1 a k = h.2.2.1 a k) (hA : h1.2.2.2 a k = h.2.2.2 a k) : fv g h1 a c k = fv g h a c k := by
  unfold fv
  rw [hI, hJ, hA]
section SNP2
variable {α : Type} {cx : CX} {y : MD} {enc : α → Option LV} {pc : Nat} {ls : List (Nat × LV)} {st : List LV} {F : Mo α} {c k N idx : Nat} {C : String} {T : u_T} {ty : Nat → FieldType}
theorem sn_putI (hca : CA c C T N ty) (hk : Nat.ble (k + 1) N = true) (hl : LK y.1 idx T k) (hfin : (T k).2.2.2 = false ∨ ((T k).2.2.2 = true ∧ y.2.1.name = "<init>" ∧ C = y.1 ∧ Cond.fieldLink y.1 idx (T k).1 (T k).2.1 (T k).2.2.1 ∈ gws)) (ht : (fT c).getD k 0 = 0) (d : decode y.2.2.1 pc = .ok (.putfield idx, 3)) {o : Option Nat} {x : Int32} {G : Unit → Mo α} (kk : Sn cx y enc (pc + 3) ls st (G ())) : Sn cx y enc pc ls (vI x :: vA o :: st) (mBd (mPutI c k o x) G) := by
  refine ⟨fun h r h' e => ?_, fun ok h r h' hF hE H locs lsA hR hm hll => ?_⟩
  · obtain ⟨u, h1, e1, e2⟩ := bd_inv e
    cases o with
    | none => cases e1
    | some a =>
      unfold mPutI at e1
      dsimp only at e1
      split at e1
      · cases e1
        obtain ⟨ext, hx⟩ := kk.1 _ _ _ e2
        exact ⟨ext, hx⟩
      · cases e1
  · obtain ⟨u, h1, e1, e2⟩ := bd_inv hF
    cases o with
    | none => cases e1
    | some a =>
      unfold mPutI at e1
      dsimp only at e1
      split at e1
      · rename_i hcond
        cases e1
        have hk1 := Nat.le_of_ble_eq_true hk
        have hty := (hca.2.2.2.2.1 k hk1).1.trans ht
        have hi := tg_int hty
        exact ts_put (h1 := (h.1, st1 h.2.1 a (st1 (h.2.1 a) k x), h.2.2.1, h.2.2.2)) hca hk1 hl hfin d ok hR hcond.1 (v := .int x) (by rw [hi]; rfl) (by rw [hi]; rfl) rfl (fun b hb => st1_ne hb) (fun _ _ => rfl) (fun _ _ => rfl) (by rw [fv_tagI (Or.inl ht)]; show Value.int (st1 h.2.1 a (st1 (h.2.1 a) k x) a k) = .int x; rw [st1_eq, st1_eq]) (fun j hj => fv_cong (by show st1 h.2.1 a (st1 (h.2.1 a) k x) a j = _; rw [st1_eq, st1_ne hj]) rfl rfl)
          (fun H1 locs1 hR1 => kk.2 ok _ _ _ e2 hE H1 locs1 lsA hR1 hm hll)
      · cases e1
theorem sn_putZ (hca : CA c C T N ty) (hk : Nat.ble (k + 1) N = true) (hl : LK y.1 idx T k) (hfin : (T k).2.2.2 = false ∨ ((T k).2.2.2 = true ∧ y.2.1.name = "<init>" ∧ C = y.1 ∧ Cond.fieldLink y.1 idx (T k).1 (T k).2.1 (T k).2.2.1 ∈ gws)) (ht : (fT c).getD k 0 = 3) (d : decode y.2.2.1 pc = .ok (.putfield idx, 3)) {o : Option Nat} {x : Int32} {G : Unit → Mo α} (kk : Sn cx y enc (pc + 3) ls st (G ())) : Sn cx y enc pc ls (vI x :: vA o :: st) (mBd (mPutZ c k o x) G) := by
  refine ⟨fun h r h' e => ?_, fun ok h r h' hF hE H locs lsA hR hm hll => ?_⟩
  · obtain ⟨u, h1, e1, e2⟩ := bd_inv e
    cases o with
    | none => cases e1
    | some a =>
      unfold mPutZ at e1
      dsimp only at e1
      split at e1
      · cases e1
        obtain ⟨ext, hx⟩ := kk.1 _ _ _ e2
        exact ⟨ext, hx⟩
      · cases e1
  · obtain ⟨u, h1, e1, e2⟩ := bd_inv hF
    cases o with
    | none => cases e1
    | some a =>
      unfold mPutZ at e1
      dsimp only at e1
      split at e1
      · rename_i hcond
        cases e1
        have hk1 := Nat.le_of_ble_eq_true hk
        have hty := (hca.2.2.2.2.1 k hk1).1.trans ht
        have hi := tg_bool hty
        exact ts_put (h1 := (h.1, st1 h.2.1 a (st1 (h.2.1 a) k x), h.2.2.1, h.2.2.2)) hca hk1 hl hfin d ok hR hcond.1.1 (v := .int x) (by rw [hi]; rcases hcond.2 with q | q <;> (rw [q]; rfl)) (by rw [hi]; rcases hcond.2 with q | q <;> (rw [q]; rfl)) rfl (fun b hb => st1_ne hb) (fun _ _ => rfl) (fun _ _ => rfl) (by rw [fv_tagI (Or.inr ht)]; show Value.int (st1 h.2.1 a (st1 (h.2.1 a) k x) a k) = .int x; rw [st1_eq, st1_eq]) (fun j hj => fv_cong (by show st1 h.2.1 a (st1 (h.2.1 a) k x) a j = _; rw [st1_eq, st1_ne hj]) rfl rfl)
          (fun H1 locs1 hR1 => kk.2 ok _ _ _ e2 hE H1 locs1 lsA hR1 hm hll)
      · cases e1
theorem sn_putJ (hca : CA c C T N ty) (hk : Nat.ble (k + 1) N = true) (hl : LK y.1 idx T k) (hfin : (T k).2.2.2 = false ∨ ((T k).2.2.2 = true ∧ y.2.1.name = "<init>" ∧ C = y.1 ∧ Cond.fieldLink y.1 idx (T k).1 (T k).2.1 (T k).2.2.1 ∈ gws)) (ht : (fT c).getD k 0 = 1) (d : decode y.2.2.1 pc = .ok (.putfield idx, 3)) {o : Option Nat} {x : Int64} {G : Unit → Mo α} (kk : Sn cx y enc (pc + 3) ls st (G ())) : Sn cx y enc pc ls (vJ x :: vA o :: st) (mBd (mPutJ c k o x) G) := by
  refine ⟨fun h r h' e => ?_, fun ok h r h' hF hE H locs lsA hR hm hll => ?_⟩
  · obtain ⟨u, h1, e1, e2⟩ := bd_inv e
    cases o with
    | none => cases e1
    | some a =>
      unfold mPutJ at e1
      dsimp only at e1
      split at e1
      · cases e1
        obtain ⟨ext, hx⟩ := kk.1 _ _ _ e2
        exact ⟨ext, hx⟩
      · cases e1
  · obtain ⟨u, h1, e1, e2⟩ := bd_inv hF
    cases o with
    | none => cases e1
    | some a =>
      unfold mPutJ at e1
      dsimp only at e1
      split at e1
      · rename_i hcond
        cases e1
        have hk1 := Nat.le_of_ble_eq_true hk
        have hty := (hca.2.2.2.2.1 k hk1).1.trans ht
        have hi := tg_long hty
        exact ts_put (h1 := (h.1, h.2.1, st1 h.2.2.1 a (st1 (h.2.2.1 a) k x), h.2.2.2)) hca hk1 hl hfin d ok hR hcond.1 (v := .long x) (by rw [hi]; rfl) (by rw [hi]; rfl) rfl (fun _ _ => rfl) (fun b hb => st1_ne hb) (fun _ _ => rfl) (by rw [fv_tagJ ht]; show Value.long (st1 h.2.2.1 a (st1 (h.2.2.1 a) k x) a k) = .long x; rw [st1_eq, st1_eq]) (fun j hj => fv_cong rfl (by show st1 h.2.2.1 a (st1 (h.2.2.1 a) k x) a j = _; rw [st1_eq, st1_ne hj]) rfl)
          (fun H1 locs1 hR1 => kk.2 ok _ _ _ e2 hE H1 locs1 lsA hR1 hm hll)
      · cases e1
theorem sn_putA (hca : CA c C T N ty) (hk : Nat.ble (k + 1) N = true) (hl : LK y.1 idx T k) (hfin : (T k).2.2.2 = false ∨ ((T k).2.2.2 = true ∧ y.2.1.name = "<init>" ∧ C = y.1 ∧ Cond.fieldLink y.1 idx (T k).1 (T k).2.1 (T k).2.2.1 ∈ gws)) (ht : (fT c).getD k 0 = 2) (d : decode y.2.2.1 pc = .ok (.putfield idx, 3)) {o : Option Nat} {x : Option Nat} {G : Unit → Mo α} (kk : Sn cx y enc (pc + 3) ls st (G ())) : Sn cx y enc pc ls (vA x :: vA o :: st) (mBd (mPutA c k o x) G) := by
  refine ⟨fun h r h' e => ?_, fun ok h r h' hF hE H locs lsA hR hm hll => ?_⟩
  · obtain ⟨u, h1, e1, e2⟩ := bd_inv e
    cases o with
    | none => cases e1
    | some a =>
      unfold mPutA at e1
      dsimp only at e1
      split at e1
      · cases e1
        obtain ⟨ext, hx⟩ := kk.1 _ _ _ e2
        exact ⟨ext, hx⟩
      · cases e1
  · obtain ⟨u, h1, e1, e2⟩ := bd_inv hF
    cases o with
    | none => cases e1
    | some a =>
      unfold mPutA at e1
      dsimp only at e1
      split at e1
      · rename_i hcond
        cases e1
        have hk1 := Nat.le_of_ble_eq_true hk
        have hty := (hca.2.2.2.2.1 k hk1).1.trans ht
        have hr := tg_ref hty (x.map (ad cx.1))
        exact ts_put (h1 := (h.1, h.2.1, h.2.2.1, st1 h.2.2.2 a (st1 (h.2.2.2 a) k x))) hca hk1 hl hfin d ok hR hcond.1 (v := va_rf (x.map (ad cx.1))) hr.1 hr.2 rfl (fun _ _ => rfl) (fun _ _ => rfl) (fun b hb => st1_ne hb) (by rw [fv_tagA ht]; show va_rf (Option.map _ (st1 h.2.2.2 a (st1 (h.2.2.2 a) k x) a k)) = va_rf (x.map (ad cx.1)); rw [st1_eq, st1_eq]) (fun j hj => fv_cong rfl rfl (by show st1 h.2.2.2 a (st1 (h.2.2.2 a) k x) a j = _; rw [st1_eq, st1_ne hj]))
          (fun H1 locs1 hR1 => kk.2 ok _ _ _ e2 hE H1 locs1 lsA hR1 hm hll)
      · cases e1
end SNP2
