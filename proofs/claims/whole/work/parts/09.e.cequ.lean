/-! ===== an equation's terms, its line: the class ===== -/
def sTms (b : Nat → Nat) (n p : Nat) : Nat → Nat → (Nat → Nat) → (Nat → Nat) → Nat → (Nat × Nat) ⊕ (Nat × (Nat → Nat) × (Nat → Nat) × Nat)
  | 0, _, _, _, t => Sum.inl (1, t)
  | k + 1, m, c, u, t => match sTrm b n p m t with
    | Sum.inl e => Sum.inl e
    | Sum.inr xy => if isG b n (t + 3) 44 = true then sTms b n p k (m + 1) (addT c m xy.1) (addT u m xy.2) (t + 4) else Sum.inr (m + 1, addT c m xy.1, addT u m xy.2, t + 3)
def addEq (B : BKD) (f T r : Nat) (c u : Nat → Nat) : BKD := (B.1, (bne B + 1, fun i => if i = bne B then (f, T, r, c, u) else B.2.1.2 i), B.2.2)
def sEqu (b : Nat → Nat) (n : Nat) (B : BKD) (N : NMD) (t : Nat) : SR :=
  if bne B = 4 then Sum.inl (5, t)
  else if kd' kwC b n (t + 1) ≠ 5 then Sum.inl (1, t + 1)
  else if (rk N (vl kwC b n (t + 1))).isSome = true then Sum.inl (3, t + 1)
  else match sInF b n N (t + 2) with
    | Sum.inl e => Sum.inl e
    | Sum.inr ft => if isW b n (t + 4) 5 = false then Sum.inl (1, t + 4)
      else match sTms b n (bfp B ft.1) 5 0 (fun _ => 0) (fun _ => 0) (t + 5) with
        | Sum.inl e => Sum.inl e
        | Sum.inr q => if isW b n q.2.2.2 7 = false then Sum.inl (1, q.2.2.2)
          else if kd' kwC b n (q.2.2.2 + 1) ≠ 2 then Sum.inl (1, q.2.2.2 + 1)
          else if inR b n (q.2.2.2 + 1) 0 (bfp B ft.1 - 1) = false then Sum.inl (4, q.2.2.2 + 1)
          else Sum.inr (addEq B ft.1 q.1 (whN b n (q.2.2.2 + 1)) q.2.1 q.2.2.1, addN N (vl kwC b n (t + 1)) 1 (bne B), q.2.2.2 + 2)
section
variable {β : Type} {kw : Nat → Int64} {K : List (Nat × Nat)} {I I' : Nat → Nat → Int32} {J J' : Nat → Nat → Int64} {A : Nat → Nat → Option Nat} {w : WD}
variable {b : Nat → Nat} {n T t sb m : Nat} {B : BKD} {N : NMD}
theorem sTrm_ok {p x y : Nat} (hp : 1 ≤ p) (h : sTrm b n p m t = Sum.inr (x, y)) (hm : m ≤ 3) : m < 3 ∧ x < p ∧ 1 ≤ y ∧ y ≤ 12 := by
  unfold sTrm at h
  repeat (first | (split at h; first | (exact absurd h (by simp)) | skip))
  rename_i h1 h2 h3 h4 h5 h6
  have h7 := Sum.inr.inj h
  have hx : whN b n t = x := congrArg Prod.fst h7
  have hy : whN b n (t + 2) = y := congrArg Prod.snd h7
  have h3' := (Bool.not_eq_false _).mp h3
  have h6' := (Bool.not_eq_false _).mp h6
  have h31 := h3'
  unfold inR at h31 h6'
  simp only [Bool.and_eq_true, beq_iff_eq, decide_eq_true_eq] at h31 h6'
  refine ⟨?_, by omega, by omega, by omega⟩
  have : ¬ m = 3 := fun q => h1 ⟨h3', q⟩
  omega
theorem sTms_ok {p : Nat} (hp : 1 ≤ p) : ∀ k m c u t m' c' u' t', m ≤ 3 → (∀ s, s < m → (c s < p ∧ 1 ≤ u s ∧ u s ≤ 12)) → sTms b n p k m c u t = Sum.inr (m', c', u', t') → okE p m' c' u' := by
  intro k
  induction k with
  | zero => intro m c u t m' c' u' t' _ _ h; unfold sTms at h; exact absurd h (by simp)
  | succ k ih =>
    intro m c u t m' c' u' t' hm hs h
    unfold sTms at h
    cases hr : sTrm b n p m t with
    | inl e => rw [hr] at h; exact absurd h (by simp)
    | inr xy =>
      obtain ⟨x, y⟩ := xy
      obtain ⟨g1, g2, g3, g4⟩ := sTrm_ok hp hr hm
      have hs' : ∀ s, s < m + 1 → (addT c m x s < p ∧ 1 ≤ addT u m y s ∧ addT u m y s ≤ 12) := by
        intro s h1
        unfold addT
        by_cases h2 : s = m
        · rw [if_pos h2, if_pos h2]; exact ⟨g2, g3, g4⟩
        · rw [if_neg h2, if_neg h2]; exact hs s (by omega)
      rw [hr] at h
      dsimp only at h
      by_cases hg : isG b n (t + 3) 44 = true
      · rw [if_pos hg] at h
        exact ih _ _ _ _ _ _ _ _ (by omega) hs' h
      · rw [if_neg hg] at h
        have h7 := Sum.inr.inj h
        have e1 : m + 1 = m' := congrArg Prod.fst h7
        have e2 : addT c m x = c' := congrArg (fun q => q.2.1) h7
        have e3 : addT u m y = u' := congrArg (fun q => q.2.2.1) h7
        rw [← e1, ← e2, ← e3]
        exact ⟨by omega, by omega, hs'⟩
theorem t_cTerms {Q : Int32 → Hp → Prop} {e p : Nat} (hS : PS K A sb) (hE : ES K A e) (hp : 3 ≤ p ∧ p ≤ 199) (he : 104 ≤ e) : ∀ k m n0 t c u I J, k + m = 5 → m ≤ 3 → k ≤ n0 → EU I e p m c u → CT I J kwC b n T t →
    (∀ kk s I' J', sTms b n p k m c u t = Sum.inl (kk, s) → (∀ x, x ≠ 65 → x ≠ 66 → x ≠ e → x ≠ e + 1 → x ≠ e + 2 → I' x = I x) → (∀ x, x ≠ 66 → J' x = J x) → (∀ j, j ≠ 9 → j ≠ 11 → I' 65 j = I 65 j) → I' 65 11 = zn kk → CT I' J' kwC b n T s → Q 0 (K, I', J', A)) →
    (∀ m' c' u' t' I' J', sTms b n p k m c u t = Sum.inr (m', c', u', t') → (∀ x, x ≠ 65 → x ≠ 66 → x ≠ e → x ≠ e + 1 → x ≠ e + 2 → I' x = I x) → (∀ x, x ≠ 66 → J' x = J x) → (∀ j, j ≠ 9 → I' 65 j = I 65 j) → EU I' e p m' c' u' → CT I' J' kwC b n T t' → Q 1 (K, I', J', A)) →
    wp (lq1 (f_X3_readTerms_b2 (some 65) (some e)) n0 (zn m)) Q (K, I, J, A) := by
  have hS' := hS
  obtain ⟨hk, ⟨h0, h1, h2, h3, h4, h5⟩, hT, hR, d1, d2, d3, hBs⟩ := hS'
  intro k
  induction k with
  | zero => intro m n0 t c u I J h1 h2; omega
  | succ k ih =>
    intro m n0 t c u I J hkm hm hn0 hU hC qe qs
    obtain ⟨n1, rfl⟩ : ∃ n1, n0 = n1 + 1 := ⟨n0 - 1, by omega⟩
    show wp (f_X3_readTerms_b2 (some 65) (some e) (lq1 (f_X3_readTerms_b2 (some 65) (some e)) n1) (zn m)) Q (K, I, J, A)
    unfold f_X3_readTerms_b2
    refine wp_ifn (show ¬ zn m > zn 3 from lt_f (by omega)) (b_ck hk (wp_bd (t_cTerm hS hE hU hm hp he hC (fun kk s I1 J1 g1 e1 e2 e3 e4 c1 => ?_) (fun x y I1 J1 g1 e1 e2 e3 e4 e5 u1 c1 => ?_))))
    · refine wp_ifn (by decide) (wp_rt (qe kk s I1 J1 ?_ (fun x a b _ _ _ => (e1 x a b).1) (fun x b => ?_) e2 e4 c1))
      · unfold sTms; rw [g1]
      · by_cases h65 : x = 65
        · rw [h65]; exact e3
        · exact (e1 x h65 b).2
    · have hm3 := sTrm_ok (by omega) g1 hm
      refine wp_ifp (by decide) (b_getA hk h0 (b_ck hT.1 (b_eq (t_atSign (c := 44) hT c1) ?_)))
      by_cases hg : isG b n (t + 3) 44 = true
      · rw [hg]
        refine wp_ifp (by decide) (b_getA hk h0 (b_ck hT.1 (wp_bd (t_cstep hT c1 (by have := isG_k hg; omega) (fun I2 J2 f2 c2 => ?_)))))
        rw [zn_succ]
        have hU2 : EU I2 e p (m + 1) (addT c m x) (addT u m y) := ⟨by rw [f2.1 e (by omega)]; exact u1.1, by rw [f2.1 e (by omega)]; exact u1.2.1, fun s hs => ⟨by rw [f2.1 (e + 1) (by omega)]; exact (u1.2.2 s hs).1, by rw [f2.1 (e + 2) (by omega)]; exact (u1.2.2 s hs).2⟩⟩
        refine ih (m + 1) n1 (t + 4) _ _ I2 J2 (by omega) (by omega) (by omega) hU2 c2 (fun kk s I3 J3 g3 a1 a2 a3 a4 c3 => qe kk s I3 J3 ?_ (fun z z1 z2 z3 z4 z5 => ?_) (fun z z1 => ?_) (fun j j1 j2 => ?_) a4 c3) (fun m' c' u' t' I3 J3 g3 a1 a2 a3 u3 c3 => qs m' c' u' t' I3 J3 ?_ (fun z z1 z2 z3 z4 z5 => ?_) (fun z z1 => ?_) (fun j j1 => ?_) u3 c3)
        · unfold sTms; rw [g1]; dsimp only; rw [if_pos hg]; exact g3
        · rw [a1 z z1 z2 z3 z4 z5, f2.1 z z2]; exact e1 z z1 z2 z3 z4 z5
        · rw [a2 z z1, f2.2.2 z z1]; exact e2 z z1
        · rw [a3 j j1 j2, f2.1 65 (by decide)]; exact e3 j j1
        · unfold sTms; rw [g1]; dsimp only; rw [if_pos hg]; exact g3
        · rw [a1 z z1 z2 z3 z4 z5, f2.1 z z2]; exact e1 z z1 z2 z3 z4 z5
        · rw [a2 z z1, f2.2.2 z z1]; exact e2 z z1
        · rw [a3 j j1, f2.1 65 (by decide)]; exact e3 j j1
      · rw [Bool.eq_false_iff.mpr hg]
        refine wp_ifn (by decide) (wp_rt (qs _ _ _ _ I1 J1 ?_ e1 e2 e3 u1 c1))
        unfold sTms; rw [g1]; dsimp only; rw [if_neg hg]
end
