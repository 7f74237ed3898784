/-! ===== an equation's line: the reference ===== -/
section
variable {β : Type} {kw : Nat → Int64} {K : List (Nat × Nat)} {I I' : Nat → Nat → Int32} {J J' : Nat → Nat → Int64} {A : Nat → Nat → Option Nat} {w : WD}
variable {b : Nat → Nat} {n T t rb m e : Nat} {B : BKD} {N : NMD}
theorem o_readField (hM : MS K A 224) (h : I 224 11 = 5) (h4 : A 224 4 = some rb) (hB : BS K A rb) (hN : NmR I J rb N) (hO : okN N) : f_X13_readField (some 224) (K, I, J, A) = some (-1, (K, I, J, A)) := by
  apply wp_get
  unfold f_X13_readField
  refine b_ck hM.1 (b_eq (o_needs hM h) (b_ck hM.1 (b_eq (o_isName hM h) (wp_ifn (by decide) (b_ck hM.1 (b_eq (o_wrong hM h) ?_))))))
  unfold wp
  exact ⟨_, _, o_j18 hM h h4 hB hN hO, rfl, rfl⟩
theorem o_j205 {x1 x4 x6 s0 : Int32} {v : Int64} (hM : MS K A 224) (h : I 224 11 = 5) : f_X13_readEquation_j205 (some 224) x1 v x4 x6 s0 (K, I, J, A) = some ((), (K, I, J, A)) := by
  apply wp_get
  unfold f_X13_readEquation_j205
  exact b_getIv hM.1 h (wp_ifn (by decide) (wp_rt ⟨rfl, rfl⟩))
theorem o_j167 {x1 x4 x6 : Int32} {v : Int64} (hM : MS K A 224) (h : I 224 11 = 5) : f_X13_readEquation_j167 (some 224) x1 v x4 x6 (K, I, J, A) = some ((), (K, I, J, A)) := by
  apply wp_get
  unfold f_X13_readEquation_j167
  refine b_ck hM.1 (b_eq (o_needs hM h) (b_getIv hM.1 h (wp_ifn (by decide) ?_)))
  unfold wp
  exact ⟨_, _, o_j205 hM h, rfl, rfl⟩
theorem o_l43 {x1 x4 x6 : Int32} {v : Int64} (hM : MS K A 224) (h : I 224 11 = 5) : f_X13_readEquation_l43 (some 224) x1 v x4 1 x6 (K, I, J, A) = some ((), (K, I, J, A)) := by
  apply wp_get
  unfold f_X13_readEquation_l43
  show wp (f_X13_readEquation_b43 (some 224) x1 v x4 (lq2 (f_X13_readEquation_b43 (some 224) x1 v x4) 999999) 1 x6) _ _
  unfold f_X13_readEquation_b43
  refine wp_ifn (by decide) (b_getIv hM.1 h (wp_ifp (by decide) ?_))
  unfold wp
  exact ⟨_, _, o_j167 hM h, rfl, rfl⟩
/-- what comes behind the name, once it is over -/
theorem o_tailE2 {Q : Unit → Hp → Prop} {x1 : Int32} {v : Int64} (hM : MS K A 224) (h : I 224 11 = 5) (h4 : A 224 4 = some rb) (hB : BS K A rb) (hN : NmR I J rb N) (hO : okN N) (q : Q () (K, I, J, A)) : wp (mBd (mCk 11 (some 224) (f_X13_readField (some 224))) (fun r6 => mBd (mCk 11 (some 224) (f_X13_needs (some 224) ((some 11)))) (fun _ => f_X13_readEquation_l43 (some 224) x1 v r6 (1 : Int32) (0 : Int32)))) Q (K, I, J, A) := by
  refine b_ck hM.1 (b_eq (o_readField hM h h4 hB hN hO) (b_ck hM.1 (b_eq (o_needs hM h) ?_)))
  unfold wp
  exact ⟨_, _, o_l43 hM h, q⟩
theorem BS.out {x : Nat} {q : Nat × Nat} (h : BS K A rb) (hx : kk K x = q) (hq : q = (0, 10) ∨ q = (1, 200) ∨ q = (2, 13)) : x < rb ∨ rb + 12 ≤ x := by
  obtain ⟨b0, _, ⟨k1, k2, k3, k4, k5, k6, k7, k8, k9, k10, k11⟩, _⟩ := h
  have ne : ∀ {y : Nat} {k2 : Nat × Nat}, kk K y = k2 → (k2 ≠ (0, 10) ∧ k2 ≠ (1, 200) ∧ k2 ≠ (2, 13)) → x ≠ y := fun h2 h3 e => by
    subst e
    rw [h2] at hx
    subst hx
    rcases hq with h | h | h
    · exact h3.1 h
    · exact h3.2.1 h
    · exact h3.2.2 h
  have n0 := ne b0 (by decide)
  have n1 := ne k1 (by decide)
  have n2 := ne k2 (by decide)
  have n3 := ne k3 (by decide)
  have n4 := ne k4 (by decide)
  have n5 := ne k5 (by decide)
  have n6 := ne k6 (by decide)
  have n7 := ne k7 (by decide)
  have n8 := ne k8 (by decide)
  have n9 := ne k9 (by decide)
  have n10 := ne k10 (by decide)
  have n11 := ne k11 (by decide)
  omega
theorem RBC.addE {f m' r : Nat} {c u : Nat → Nat} (hk : okB B) (h : RBC K I J A rb B) (hB : BS K A rb) (hb : 236 ≤ rb) (hne : bne B < 4) (e0 : I' rb 0 = I rb 0) (e1 : I' rb 1 = zn (bne B + 1)) (e2 : I' rb 2 = I rb 2)
    (eI : ∀ x, 236 ≤ x → (x < rb ∨ rb + 12 ≤ x ∨ x = rb + 7) → I' x = I x) (eJ : ∀ x, 236 ≤ x → (x < rb ∨ rb + 12 ≤ x ∨ x = rb + 8) → J' x = J x)
    (e5 : ∀ j, j < 3 * bne B → I' (rb + 5) j = I (rb + 5) j ∧ I' (rb + 6) j = I (rb + 6) j) (e4 : ∀ j, j < bne B → I' (rb + 2) j = I (rb + 2) j ∧ I' (rb + 3) j = I (rb + 3) j ∧ I' (rb + 4) j = I (rb + 4) j)
    (hE : REC I' rb (bne B) f m' r c u) : RBC K I' J' A rb (addEq B f m' r c u) := by
  obtain ⟨⟨o1, o2⟩, ⟨o3, o4⟩, ⟨o5, o6⟩⟩ := hk
  obtain ⟨⟨x1, x2, x3⟩, x4, x5, x6⟩ := h
  refine ⟨⟨e0.trans x1, e1, e2.trans x3⟩, fun f hf => ?_, fun i hi => ?_, fun l hl => ⟨?_, fun i hi => ?_⟩⟩
  · have hf' : f < bnf B := hf
    obtain ⟨fo, z1, z2, z3, z4⟩ := x4 f hf'
    have d0 := hB.out z3.1 (Or.inl rfl)
    have d1 := hB.out z3.2.2.1.1 (Or.inr (Or.inl rfl))
    have d2 := hB.out z3.2.2.1.2 (Or.inr (Or.inr rfl))
    exact ⟨fo, z1, z2, z3, (z4.mvI (eI _ (by omega) (by omega)) (eI _ (by omega) (by omega))).mv (eJ _ (by omega) (by omega))⟩
  · have hi' : i < bne B + 1 := hi
    by_cases h : i = bne B
    · subst h
      have e1 : bef (addEq B f m' r c u) (bne B) = f := by unfold bef addEq; simp
      have e2 : beT (addEq B f m' r c u) (bne B) = m' := by unfold beT addEq; simp
      have e3 : ber (addEq B f m' r c u) (bne B) = r := by unfold ber addEq; simp
      have e4 : bec (addEq B f m' r c u) (bne B) = c := by unfold bec addEq; simp
      have e5 : beu (addEq B f m' r c u) (bne B) = u := by unfold beu addEq; simp
      rw [e1, e2, e3, e4, e5]
      exact hE
    · have e1 : bef (addEq B f m' r c u) i = bef B i := by unfold bef addEq; simp [h]
      have e2 : beT (addEq B f m' r c u) i = beT B i := by unfold beT addEq; simp [h]
      have e3 : ber (addEq B f m' r c u) i = ber B i := by unfold ber addEq; simp [h]
      have e4' : bec (addEq B f m' r c u) i = bec B i := by unfold bec addEq; simp [h]
      have e5' : beu (addEq B f m' r c u) i = beu B i := by unfold beu addEq; simp [h]
      rw [e1, e2, e3, e4', e5']
      obtain ⟨z1, z2, z3, z4⟩ := x5 i (by omega)
      have hT := (o4 i (show i < bne B by omega)).2.1.2.1
      refine ⟨by rw [(e4 i (by omega)).1]; exact z1, by rw [(e4 i (by omega)).2.1]; exact z2, by rw [(e4 i (by omega)).2.2]; exact z3, fun t ht => ⟨by rw [(e5 _ (by omega)).1]; exact (z4 t ht).1, by rw [(e5 _ (by omega)).2]; exact (z4 t ht).2⟩⟩
  · have hl' : l < bnl B := hl
    rw [eI _ (by omega) (by omega)]; exact (x6 l hl').1
  · have hl' : l < bnl B := hl
    rw [eJ _ (by omega) (by omega)]; exact (x6 l hl').2 i hi
end
