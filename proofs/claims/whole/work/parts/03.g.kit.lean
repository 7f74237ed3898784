/-! ===== new cells ===== -/
section SNN
variable {α : Type} {cx : CX} {y : MD} {enc : α → Option LV} {pc : Nat} {ls : List (Nat × LV)} {st : List LV} {F : Mo α}
theorem tcell_cong {g : Gl} {h h1 : Hp} {a : Nat} {q : Nat × Nat} (hI : h1.2.1 a = h.2.1 a) (hJ : h1.2.2.1 a = h.2.2.1 a) (hA : h1.2.2.2 a = h.2.2.2 a) : tcell g h1 a q = tcell g h a q := by
  unfold tcell fl fv
  rw [hI, hJ, hA]
theorem tg_dref {t : FieldType} (h : tg t = 2) : defaultValue t = .null := by cases t <;> first | rfl | cases h
theorem hNew_kd (h : Hp) (q : Nat × Nat) : (hNew h q).1[h.1.length]? = some q := by
  show (h.1 ++ [q])[h.1.length]? = some q
  rw [List.getElem?_append_right (Nat.le_refl _), Nat.sub_self]
  rfl
theorem hNew_len (h : Hp) (q : Nat × Nat) : (hNew h q).1.length = h.1.length + 1 := List.length_append
theorem hNew_sz (h : Hp) (q : Nat × Nat) : hsz (hNew h q) = hsz h + ksz q := by
  rw [hsz_ext (h := h) (h' := hNew h q) (ext := [q]) rfl]
  rfl
/-- a new cell, at the heap's end -/
theorem wr_push {g : Gl} {h : Hp} {H H1 : Heap} (w : wr g h H) {q : Nat × Nat} (hz : H1.size = H.size + 1) (ho : ∀ z, z < H.size → H1[z]? = H[z]?) (hat : q.1 < 8 → va_at (gD g) vwCl (ad g h.1.length, tcell g (hNew h q) h.1.length q) H1) : wr g (hNew h q) H1 := by
  obtain ⟨⟨r, w1⟩, w2, w3, w4, w5⟩ := w
  refine ⟨⟨r ++ [q], by show h.1 ++ [q] = _; rw [w1, List.append_assoc]⟩, fun a ha => (st1_ne (by omega)).trans (w2 a ha), by rw [hNew_len]; omega, by rw [hNew_len, hz, w4]; omega, fun a q' ha e h8 => ?_⟩
  by_cases hl : a < h.1.length
  · have e' : h.1[a]? = some q' := by
      have e1 : (h.1 ++ [q])[a]? = some q' := e
      rw [List.getElem?_append_left hl] at e1
      exact e1
    have h1 := w5 a q' ha e' h8
    have h2 := h1.kept (ho (ad g a) h1.lt)
    have ht : tcell g (hNew h q) a q' = tcell g h a q' := tcell_cong (st1_ne (by omega)) (st1_ne (by omega)) (st1_ne (by omega))
    rw [ht]
    exact h2
  · have hla : a = h.1.length := by
      have h1 := (List.getElem?_eq_some_iff.mp e).1
      rw [hNew_len] at h1
      omega
    subst hla
    rw [hNew_kd] at e
    cases e
    exact hat h8
theorem ad_end {g : Gl} {h : Hp} {H : Heap} (w : wr g h H) : ad g h.1.length = H.size := by
  rw [ad_new w.2.2.1, w.2.2.2.1]
theorem Rdy_push {h : Hp} {H H1 : Heap} {locs : List Loc} (hR : Rdy cx h H locs) {q : Nat × Nat} (w1 : wr cx.1 (hNew h q) H1) (hz : H1.size = H.size + 1) (ho : ∀ z, z < H.size → H1[z]? = H[z]?) : Rdy cx (hNew h q) H1 locs := by
  obtain ⟨r1, r2, r3, r4⟩ := hR
  refine ⟨w1, ⟨Nat.le_trans r2.1 (by omega), fun x h1 h2 => (ho x (Nat.lt_of_lt_of_le h1 r2.1)).trans (r2.2.1 x h1 h2), r2.2.2⟩, by rw [hNew_len]; omega, by rw [hNew_sz]; omega⟩
theorem Rm_push {h h' : Hp} {q : Nat × Nat} (hR3 : cx.2.2.2.2.2.2.2.2.2.2.2.1 ≤ h.1.length) (hR4 : cx.2.2.2.2.2.2.2.2.2.2.2.2 ≤ hsz h) (hm : Rm cx h') (hx : ∃ ext, h'.1 = (hNew h q).1 ++ ext) : h.1.length - cx.2.2.2.2.2.2.2.2.2.2.2.1 + 1 ≤ cx.2.2.2.1.cells ∧ hsz h - cx.2.2.2.2.2.2.2.2.2.2.2.2 + ksz q ≤ cx.2.2.2.1.slots := by
  obtain ⟨ext, hx⟩ := hx
  have h1 := hsz_ext hx
  have h2 : h'.1.length = h.1.length + 1 + ext.length := by rw [hx, List.length_append, hNew_len]
  rw [hNew_sz] at h1
  obtain ⟨m1, m2⟩ := hm
  omega
theorem Wc_push {h : Hp} {q : Nat × Nat} (hR3 : cx.2.2.2.2.2.2.2.2.2.2.2.1 ≤ h.1.length) (hR4 : cx.2.2.2.2.2.2.2.2.2.2.2.2 ≤ hsz h) {H : Heap} {locs : List Loc} {f : JFrame} (hw : Wc cx (hNew h q) H locs f) : W cx.2.1 cx.1.1 cx.2.2.1 cx.2.2.2.1 cx.2.2.2.2.1 cx.2.2.2.2.2.1 cx.2.2.2.2.2.2.1 cx.2.2.2.2.2.2.2.1 cx.2.2.2.2.2.2.2.2.1 cx.2.2.2.2.2.2.2.2.2.1 H locs (h.1.length - cx.2.2.2.2.2.2.2.2.2.2.2.1 + 1) (hsz h - cx.2.2.2.2.2.2.2.2.2.2.2.2 + ksz q) cx.2.2.2.2.2.2.2.2.2.2.1 f := by
  unfold Wc at hw
  rw [hNew_len, hNew_sz, Nat.sub_add_comm hR3, Nat.sub_add_comm hR4] at hw
  exact hw
def NK (own : String) (idx : Nat) (C : String) (N : Nat) : Prop := Cond.classLink own idx C ∈ gws ∧ Cond.instantiable C N ∈ gws ∧ Cond.initialized C ∈ gws
theorem sn_new {c N idx : Nat} {C : String} {T : u_T} {ty : Nat → FieldType} (hca : CA c C T N ty) (hn : NK y.1 idx C N) (d : decode y.2.2.1 pc = .ok (.new idx, 3)) {G : Option Nat → Mo α} (kk : ∀ x, Sn cx y enc (pc + 3) ls (vA x :: st) (G x)) : Sn cx y enc pc ls st (mBd (mNew c) G) := by
  refine ⟨fun h r h' e => ?_, fun ok h r h' hF hE H locs lsA hR hm hll => ?_⟩
  · obtain ⟨x, h1, e1, e2⟩ := bd_inv e
    unfold mNew at e1
    split at e1
    · cases e1
      obtain ⟨ext, hx⟩ := (kk _).1 _ _ _ e2
      exact ⟨(0, c) :: ext, by rw [hx]; show (h.1 ++ [(0, c)]) ++ ext = _; rw [List.append_assoc]; rfl⟩
    · cases e1
  · obtain ⟨x, h1, e1, e2⟩ := bd_inv hF
    unfold mNew at e1
    split at e1
    · rename_i hc
      cases e1
      obtain ⟨r1, r2, r3, r4⟩ := id hR
      have hroom := Rm_push r3 r4 hm ((kk _).1 _ _ _ e2)
      have hKn := ok.2.2.2.2.2.2.2.2.2.2.1.1.1 c _ hca.1
      have hks : ksz (0, c) = N := hca.2.1
      rw [hks] at hroom
      refine W.newcK ok.1 ok.2.1 ok.2.2.2.1 (ok.2.2.2.2.1 _ hn.1) (ok.2.2.2.2.1 _ hn.2.1) (ok.2.2.2.2.1 _ hn.2.2) rfl d hroom.1 hroom.2 hKn.2.1 rfl fun H1 kC hkC z1 z2 z3 => ?_
      have w1 : wr cx.1 (hNew h (0, c)) H1 := wr_push r1 z2 z3 (fun _ => by
        rw [ad_end r1]
        exact ⟨_, hca.1, (u_born ty ok.2.2.2.2.1 hca.2.2.1 hKn hkC z1 hca.2.2.2.1).to (fun j hj => by
          show defaultValue (ty j) = vp_V (fl cx.1 (hNew h (0, c)) h.1.length c) j
          rw [fl_V (by rw [hca.2.1]; exact hj)]
          obtain ⟨t1, t2⟩ := hca.2.2.2.2.1 j hj
          have q0 : (hNew h (0, c)).2.1 h.1.length j = 0 := by show st1 h.2.1 h.1.length (fun _ => 0) h.1.length j = 0; rw [st1_eq]
          have q1 : (hNew h (0, c)).2.2.1 h.1.length j = 0 := by show st1 h.2.2.1 h.1.length (fun _ => 0) h.1.length j = 0; rw [st1_eq]
          have q2 : (hNew h (0, c)).2.2.2 h.1.length j = none := by show st1 h.2.2.2 h.1.length (fun _ => none) h.1.length j = none; rw [st1_eq]
          have t3 : tg (ty j) = 0 ∨ tg (ty j) = 1 ∨ tg (ty j) = 2 ∨ tg (ty j) = 3 := by omega
          rcases t3 with t3 | t3 | t3 | t3
          · rw [tg_int t3, fv_tagI (Or.inl (t1.symm.trans t3)), q0]; rfl
          · rw [tg_long t3, fv_tagJ (t1.symm.trans t3), q1]; rfl
          · rw [tg_dref t3, fv_tagA (t1.symm.trans t3), q2]; rfl
          · rw [tg_bool t3, fv_tagI (Or.inr (t1.symm.trans t3)), q0]; rfl)⟩)
      have K := (kk (some h.1.length)).2 ok _ _ _ e2 hE H1 locs lsA (Rdy_push hR w1 z2 z3) hm hll
      have K2 := Wc_push r3 r4 K
      rw [hks] at K2
      rw [show H.size = ad cx.1 h.1.length from (ad_end r1).symm]
      exact K2
    · cases e1
theorem sn_newarray {t : Nat} {at9 : ArrayType} (hat : newarray.typeOf at9 = aty t) (ht : t = 1 ∨ t = 2 ∨ t = 3) (hw : Cond.arrayClass (newarray.typeOf at9) ∈ gws) (d : decode y.2.2.1 pc = .ok (.newarray at9, 2)) {n : Int32} {G : Option Nat → Mo α} (kk : ∀ x, Sn cx y enc (pc + 2) ls (vA x :: st) (G x)) : Sn cx y enc pc ls (vI n :: st) (mBd (mNewA t n) G) := by
  refine ⟨fun h r h' e => ?_, fun ok h r h' hF hE H locs lsA hR hm hll => ?_⟩
  · obtain ⟨x, h1, e1, e2⟩ := bd_inv e
    unfold mNewA at e1
    split at e1
    · cases e1
      obtain ⟨ext, hx⟩ := (kk _).1 _ _ _ e2
      exact ⟨_ :: ext, by rw [hx]; show (h.1 ++ [_]) ++ ext = _; rw [List.append_assoc]; rfl⟩
    · cases e1
  · obtain ⟨x, h1, e1, e2⟩ := bd_inv hF
    unfold mNewA at e1
    split at e1
    · rename_i hc
      cases e1
      obtain ⟨r1, r2, r3, r4⟩ := id hR
      have hroom := Rm_push r3 r4 hm ((kk _).1 _ _ _ e2)
      have hks : ksz (t, n.toNatClampNeg) = n.toNatClampNeg := if_neg (by show ¬ t = 0; omega)
      rw [hks] at hroom
      refine va_newaK ok.1 ok.2.1 (ok.2.2.2.2.1 _ hw) rfl d rfl hc.2.1 rfl (by rw [hat]; rcases ht with q | q | q <;> (subst q; have := hc.2.2; show _ * _ ≤ _; (first | (show _ * 4 ≤ _; omega) | (show _ * 8 ≤ _; omega) | (show _ * 1 ≤ _; omega)))) hroom.1 hroom.2 rfl fun H1 cA z1 z2 z3 hAr hNm => ?_
      rw [hat] at z1 hNm
      have hRA := (ok.2.2.2.2.2.2.2.2.2.2.1.1.2 (t - 1) _ (tysG_at cx.1 (by omega) (by omega))).2
      have hcA : cA = gC cx.1 t := by
        have h2 : cx.2.2.2.2.1.vm.findClass ("[" ++ (aty t).toString) = some (gC cx.1 t) := by
          rcases ht with q | q | q <;> (subst q; exact hRA)
        exact Option.some.inj (hNm.symm.trans h2)
      subst hcA
      have w1 : wr cx.1 (hNew h (t, n.toNatClampNeg)) H1 := wr_push r1 z2 z3 (fun _ => by
        rw [ad_end r1]
        show va_at _ _ (H.size, tcell cx.1 (hNew h (t, n.toNatClampNeg)) h.1.length (t, n.toNatClampNeg)) H1
        rcases ht with q | q | q
        · subst q
          show H1[H.size]? = some (arrV _ _ (fun j => Value.int (st1 h.2.1 h.1.length (fun _ => 0) h.1.length j)))
          rw [st1_eq]
          exact z1
        · subst q
          show H1[H.size]? = some (arrV _ _ (fun j => Value.long (st1 h.2.2.1 h.1.length (fun _ => 0) h.1.length j)))
          rw [st1_eq]
          exact z1
        · subst q
          show H1[H.size]? = some (arrV _ _ (fun j => Value.int (st1 h.2.1 h.1.length (fun _ => 0) h.1.length j)))
          rw [st1_eq]
          exact z1)
      have K := (kk (some h.1.length)).2 ok _ _ _ e2 hE H1 locs lsA (Rdy_push hR w1 z2 z3) hm hll
      have K2 := Wc_push r3 r4 K
      rw [hks] at K2
      rw [show H.size = ad cx.1 h.1.length from (ad_end r1).symm]
      exact K2
    · cases e1
theorem sn_anewarray {t idx : Nat} {C : String} (hat : aty t = .object C) (ht : t = 4 ∨ t = 5 ∨ t = 7) (hw1 : Cond.classLink y.1 idx C ∈ gws) (d : decode y.2.2.1 pc = .ok (.anewarray idx, 3)) {n : Int32} {G : Option Nat → Mo α} (kk : ∀ x, Sn cx y enc (pc + 3) ls (vA x :: st) (G x)) : Sn cx y enc pc ls (vI n :: st) (mBd (mNewA t n) G) := by
  refine ⟨fun h r h' e => ?_, fun ok h r h' hF hE H locs lsA hR hm hll => ?_⟩
  · obtain ⟨x, h1, e1, e2⟩ := bd_inv e
    unfold mNewA at e1
    split at e1
    · cases e1
      obtain ⟨ext, hx⟩ := (kk _).1 _ _ _ e2
      exact ⟨_ :: ext, by rw [hx]; show (h.1 ++ [_]) ++ ext = _; rw [List.append_assoc]; rfl⟩
    · cases e1
  · obtain ⟨x, h1, e1, e2⟩ := bd_inv hF
    unfold mNewA at e1
    split at e1
    · rename_i hc
      cases e1
      obtain ⟨r1, r2, r3, r4⟩ := id hR
      have hroom := Rm_push r3 r4 hm ((kk _).1 _ _ _ e2)
      have hks : ksz (t, n.toNatClampNeg) = n.toNatClampNeg := if_neg (by show ¬ t = 0; omega)
      rw [hks] at hroom
      have hbytes : n.toNatClampNeg * 4 ≤ 536870912 := by have := hc.2.2; omega
      refine W.anew ok.1 ok.2.1 ok.2.2.2.1 (ok.2.2.2.2.1 _ hw1) (va_AO.use (show va_AO C cx.2.2.2.2.1 by
        have hN := ok.2.2.2.2.2.2.2.2.2.2.1.2.1.2.2.2
        rcases ht with q | q | q <;> (subst q; cases hat)
        · exact hN.1
        · exact hN.2.1
        · exact hN.2.2.1)) rfl d rfl hc.2.1 hbytes hroom.1 hroom.2 fun cA kA comp f1 f2 f3 f4 => ?_
      generalize hH1 : H.push ({ cls := cA, slots := Array.replicate n.toNatClampNeg .null, vm := .none } : Cell) = H1
      have z2 : H1.size = H.size + 1 := by rw [← hH1, Array.size_push]
      have z1 : H1[H.size]? = some (arrV cA n.toNatClampNeg (fun _ => .null)) := by rw [← hH1, Array.getElem?_push_size, ← arrV_new]
      have z3 : ∀ q : Nat, q < H.size → H1[q]? = H[q]? := fun q hq => by rw [← hH1, Array.getElem?_push, if_neg (Nat.ne_of_lt hq)]
      have hRA := (ok.2.2.2.2.2.2.2.2.2.2.1.1.2 (t - 1) _ (tysG_at cx.1 (by omega) (by omega))).2
      rw [hat] at hRA
      obtain ⟨kA', comp', b1, b2, b3, b4⟩ := hRA
      have hcA : cA = gC cx.1 t := Option.some.inj (f1.symm.trans b4)
      subst hcA
      have w1 : wr cx.1 (hNew h (t, n.toNatClampNeg)) H1 := wr_push r1 z2 z3 (fun _ => by
        rw [ad_end r1, tcell_ref (by omega)]
        show H1[H.size]? = some (arrV _ _ (fun j => va_rf ((st1 h.2.2.2 h.1.length (fun _ => none) h.1.length j).map (ad cx.1))))
        rw [st1_eq]
        exact z1)
      have K := (kk (some h.1.length)).2 ok _ _ _ e2 hE H1 locs lsA (Rdy_push hR w1 z2 z3) hm hll
      have K2 := Wc_push r3 r4 K
      rw [hks] at K2
      rw [show H.size = ad cx.1 h.1.length from (ad_end r1).symm]
      exact K2
    · cases e1
end SNN
