/-! ===== squares, forms, class numbers: the calls ===== -/
section
variable {β : Type} {kw : Nat → Int64} {K : List (Nat × Nat)} {I I' : Nat → Nat → Int32} {J J' : Nat → Nat → Int64} {A : Nat → Nat → Option Nat} {w : WD}
theorem oddP_rng {v : Int} (h : oddP v = true) : 3 ≤ v ∧ v ≤ 199 := by
  unfold oddP at h
  simp only [Bool.and_eq_true, decide_eq_true_eq] at h
  exact h.1
theorem op_sign {a b : Int} (hI : Core kw K I J A w) (ha : -2147483648 ≤ a ∧ a < 2147483648) (hb : -2147483648 ≤ b ∧ b < 2147483648) : Both (f_X10_sign (some 64) (zi a) (zi b)) (f_X13_sign (some 224) (zi a) (zi b)) (Post kw K A w) (K, I, J, A) := by
  unfold Both f_X10_sign
  refine b_eq (t_oddC hb) ?_
  cases h : oddP b with
  | false =>
    refine wp_ifn (by decide) (e_ref hI.k64 ?_)
    unfold f_X13_sign
    refine r_start (hI).c (fun I1 hc h64 => ?_)
    refine b_eq (t_oddR hb) ?_
    rw [h]
    exact wp_ifp (by decide) (r_by hc.m0 ⟨rfl, fin hc (by rw [h64]; exact st2_at) rfl (by decide)⟩)
  | true =>
    have hr := oddP_rng h
    refine wp_ifp (by decide) ?_
    rw [zi_nn (show 0 ≤ b by omega)]
    refine b_eq (t_signOf ha (by omega)) (e_ans hI.k64 ?_)
    unfold f_X13_sign
    refine r_start (hI).c (fun I1 hc h64 => ?_)
    rw [← zi_nn (show 0 ≤ b by omega)]
    refine b_eq (t_oddR hb) ?_
    rw [h]
    refine wp_ifn (by decide) ?_
    rw [zi_nn (show 0 ≤ b by omega)]
    exact b_eq (t_signOfR ha (by omega)) (r_good hc.m0 ⟨rfl, fin0 hc (by rw [h64]; exact st2_at)⟩)
theorem op_both {a b : Int} (hI : Core kw K I J A w) (ha : -2147483648 ≤ a ∧ a < 2147483648) (hb : -2147483648 ≤ b ∧ b < 2147483648) : Both (f_X10_both (some 64) (zi a) (zi b)) (f_X13_both (some 224) (zi a) (zi b)) (Post kw K A w) (K, I, J, A) := by
  unfold Both f_X10_both
  refine b_eq (t_oddC ha) ?_
  cases h : oddP a with
  | false =>
    refine wp_ifp (by decide) (e_ref hI.k64 ?_)
    unfold f_X13_both
    refine r_start (hI).c (fun I1 hc h64 => ?_)
    refine b_eq (t_oddR ha) ?_
    rw [h]
    exact wp_ifp (by decide) (r_by hc.m0 ⟨rfl, fin hc (by rw [h64]; exact st2_at) rfl (by decide)⟩)
  | true =>
    have hr := oddP_rng h
    refine wp_ifn (by decide) (b_eq (t_oddC hb) ?_)
    cases h2 : oddP b with
    | false =>
      refine wp_ifp (by decide) (e_ref hI.k64 ?_)
      unfold f_X13_both
      refine r_start (hI).c (fun I1 hc h64 => ?_)
      refine b_eq (t_oddR ha) ?_
      rw [h]
      refine wp_ifn (by decide) (b_eq (t_oddR hb) ?_)
      rw [h2]
      exact wp_ifp (by decide) (r_by hc.m0 ⟨rfl, fin hc (by rw [h64]; exact st2_at) rfl (by decide)⟩)
    | true =>
      have hr2 := oddP_rng h2
      refine wp_ifn (by decide) ?_
      refine wp_ifq (not_congr (zi_inj (by omega) (by omega) (by omega) (by omega))) ?_
      by_cases he : a = b
      · refine wp_ifn (fun q => q he) (e_ref hI.k64 ?_)
        unfold f_X13_both
        refine r_start (hI).c (fun I1 hc h64 => ?_)
        refine b_eq (t_oddR ha) ?_
        rw [h]
        refine wp_ifn (by decide) (b_eq (t_oddR hb) ?_)
        rw [h2]
        refine wp_ifn (by decide) (wp_ifp (by rw [he]) (r_by hc.m0 ⟨rfl, fin hc (by rw [h64]; exact st2_at) rfl (by decide)⟩))
      · refine wp_ifp he ?_
        have ea := zi_nn (show 0 ≤ a by omega)
        have eb := zi_nn (show 0 ≤ b by omega)
        have s1 : ∀ h, f_X8_signOf (zi a) (zi b) h = some (zi (sg b.toNat (a % b.toNat).toNat), h) := fun h => by rw [eb]; exact t_signOf ha (by omega)
        have s2 : ∀ h, f_X8_signOf (zi b) (zi a) h = some (zi (sg a.toNat (b % a.toNat).toNat), h) := fun h => by rw [ea]; exact t_signOf hb (by omega)
        have s3 : ∀ h, f_X13_signOf (zi a) (zi b) h = some (zi (sg b.toNat (a % b.toNat).toNat), h) := fun h => by rw [eb]; exact t_signOfR ha (by omega)
        have s4 : ∀ h, f_X13_signOf (zi b) (zi a) h = some (zi (sg a.toNat (b % a.toNat).toNat), h) := fun h => by rw [ea]; exact t_signOfR hb (by omega)
        refine b_eq (s1 _) (b_eq (s2 _) (e_ans hI.k64 ?_))
        unfold f_X13_both
        refine r_start (hI).c (fun I1 hc h64 => ?_)
        refine b_eq (t_oddR ha) ?_
        rw [h]
        refine wp_ifn (by decide) (b_eq (t_oddR hb) ?_)
        rw [h2]
        refine wp_ifn (by decide) (wp_ifn (ieq_f ⟨he, by omega⟩) (b_eq (s3 _) (b_eq (s4 _) (r_good hc.m0 ⟨rfl, fin0 hc (by rw [h64]; exact st2_at)⟩))))
theorem op_form {a b : Int} (hI : Core kw K I J A w) (ha : -2147483648 ≤ a ∧ a < 2147483648) (hb : -2147483648 ≤ b ∧ b < 2147483648) : Both (f_X10_form (some 64) (zi a) (zi b)) (f_X13_form (some 224) (zi a) (zi b)) (Post kw K A w) (K, I, J, A) := by
  unfold Both f_X10_form
  refine b_eq (t_oddC ha) ?_
  cases h : oddP a with
  | false =>
    refine wp_ifn (by decide) (e_ref hI.k64 ?_)
    unfold f_X13_form
    refine r_start (hI).c (fun I1 hc h64 => ?_)
    refine b_eq (t_oddR ha) ?_
    rw [h]
    exact wp_ifn (by decide) (r_ref hc.m0 ⟨rfl, fin hc (by rw [h64]; exact st2_at) rfl (by decide)⟩)
  | true =>
    have hr := oddP_rng h
    refine wp_ifp (by decide) ?_
    have bad : ¬ (1 ≤ b ∧ b ≤ 99) → wp (f_X13_form (some 224) (zi a) (zi b)) (fun r' h2 => r' = -1 ∧ Post kw K A w h2) (K, st2 I 64 11 2, J, A) := by
      intro hb2
      unfold f_X13_form
      refine r_start (hI).c (fun I1 hc h64 => ?_)
      refine b_eq (t_oddR ha) ?_
      rw [h]
      refine wp_ifp (by decide) (b_eq (t_inN (lo := 1) (hi := 99) hb (by omega) (by omega)) ?_)
      rw [show (decide (((1 : Nat) : Int) ≤ b) && decide (b ≤ ((99 : Nat) : Int))) = false from by simp; omega]
      exact wp_ifn (by decide) (r_ref hc.m0 ⟨rfl, fin hc (by rw [h64]; exact st2_at) rfl (by decide)⟩)
    by_cases h1 : b < 1
    · exact wp_ifp (ilt_t (b := 1) (by omega)) (e_ref hI.k64 (bad (by omega)))
    · refine wp_ifn (ilt_f (b := 1) (by omega)) ?_
      by_cases h2 : b ≤ 99
      · refine wp_ifp (ile_t (b := 99) (by omega)) ?_
        rw [zi_nn (show 0 ≤ a by omega), zi_nn (show 0 ≤ b by omega)]
        refine b_eq (t_leastForm (by omega) (by omega)) (e_ans hI.k64 ?_)
        rw [← zi_nn (show 0 ≤ a by omega), ← zi_nn (show 0 ≤ b by omega)]
        unfold f_X13_form
        refine r_start (hI).c (fun I1 hc h64 => ?_)
        refine b_eq (t_oddR ha) ?_
        rw [h]
        refine wp_ifp (by decide) (b_eq (t_inN (lo := 1) (hi := 99) hb (by omega) (by omega)) ?_)
        rw [show (decide (((1 : Nat) : Int) ≤ b) && decide (b ≤ ((99 : Nat) : Int))) = true from by simp; omega]
        refine wp_ifp (by decide) ?_
        rw [zi_nn (show 0 ≤ a by omega), zi_nn (show 0 ≤ b by omega)]
        exact t_formR (by omega) (by omega) (r_good hc.m0 ⟨rfl, fin0 hc (by rw [h64]; exact st2_at)⟩)
      · exact wp_ifn (ile_f (b := 99) (by omega)) (e_ref hI.k64 (bad (by omega)))
theorem irem4 {a : Int} (h : 0 ≤ a ∧ a < 2147483648) : irem (zi a) (4 : Int32) = zi (a % 4) := by
  rw [show (4 : Int32) = zi 4 from rfl, irem_zi (by omega) (by omega) (by omega) (by omega), Int.tmod_eq_emod_of_nonneg (by omega)]
theorem op_classSums {a : Int} (hI : Core kw K I J A w) (ha : -2147483648 ≤ a ∧ a < 2147483648) : Both (f_X10_classSums (some 64) (zi a)) (f_X13_classSums (some 224) (zi a)) (Post kw K A w) (K, I, J, A) := by
  unfold Both f_X10_classSums
  -- refused
  have bad : ¬ (7 ≤ a ∧ a % 4 = 3 ∧ oddP a = true) → wp (f_X13_classSums (some 224) (zi a)) (fun r' h2 => r' = -1 ∧ Post kw K A w h2) (K, st2 I 64 11 2, J, A) := by
    intro hb
    unfold f_X13_classSums
    refine r_start (hI).c (fun I1 hc h64 => ?_)
    refine b_eq (t_inN (lo := 7) (hi := 199) ha (by omega) (by omega)) ?_
    by_cases h1 : 7 ≤ a ∧ a ≤ 199
    · rw [show (decide (((7 : Nat) : Int) ≤ a) && decide (a ≤ ((199 : Nat) : Int))) = true from by simp; omega]
      refine wp_ifn (by decide) ?_
      rw [zi_nn (show 0 ≤ a by omega)]
      refine b_eq (t_isPrime (by omega) (by omega)) ?_
      have eo : oddP a = isPb a.toNat := by unfold oddP; simp; omega
      cases h2 : isPb a.toNat with
      | false => exact wp_ifp (by decide) (r_ref hc.m0 ⟨rfl, fin hc (by rw [h64]; exact st2_at) rfl (by decide)⟩)
      | true =>
        refine wp_ifn (by decide) ?_
        rw [← zi_nn (show 0 ≤ a by omega), irem4 (by omega)]
        exact wp_ifn (ieq_f (b := 3) ⟨fun e => hb ⟨h1.1, e, by rw [eo, h2]⟩, by omega⟩) (r_ref hc.m0 ⟨rfl, fin hc (by rw [h64]; exact st2_at) rfl (by decide)⟩)
    · rw [show (decide (((7 : Nat) : Int) ≤ a) && decide (a ≤ ((199 : Nat) : Int))) = false from by simp; omega]
      exact wp_ifp (by decide) (r_ref hc.m0 ⟨rfl, fin hc (by rw [h64]; exact st2_at) rfl (by decide)⟩)
  by_cases h1 : a < 7
  · exact wp_ifp (ilt_t (b := 7) (by omega)) (e_ref hI.k64 (bad (by omega)))
  · refine wp_ifn (ilt_f (b := 7) (by omega)) ?_
    rw [irem4 (by omega)]
    refine wp_ifq (not_congr (zi_inj (b := 3) (by omega) (by omega) (by omega) (by omega))) ?_
    by_cases h2 : a % 4 = 3
    · refine wp_ifn (fun q => q h2) (b_eq (t_oddC ha) ?_)
      cases h3 : oddP a with
      | false => exact wp_ifn (by decide) (e_ref hI.k64 (bad (fun q => by rw [h3] at q; exact absurd q.2.2 (by decide))))
      | true =>
        have hr := oddP_rng h3
        have eo : oddP a = isPb a.toNat := by unfold oddP; simp; omega
        refine wp_ifp (by decide) ?_
        rw [zi_nn (show 0 ≤ a by omega)]
        refine b_eq (t_classBySums (by omega)) (e_ans hI.k64 ?_)
        rw [← zi_nn (show 0 ≤ a by omega)]
        unfold f_X13_classSums
        refine r_start (hI).c (fun I1 hc h64 => ?_)
        refine b_eq (t_inN (lo := 7) (hi := 199) ha (by omega) (by omega)) ?_
        rw [show (decide (((7 : Nat) : Int) ≤ a) && decide (a ≤ ((199 : Nat) : Int))) = true from by simp; omega]
        refine wp_ifn (by decide) ?_
        rw [zi_nn (show 0 ≤ a by omega)]
        refine b_eq (t_isPrime (by omega) (by omega)) ?_
        rw [← eo, h3]
        refine wp_ifn (by decide) ?_
        rw [← zi_nn (show 0 ≤ a by omega), irem4 (by omega), h2]
        refine wp_ifp rfl ?_
        rw [zi_nn (show 0 ≤ a by omega)]
        exact t_classSumsR (by omega) (r_good hc.m0 ⟨rfl, fin0 hc (by rw [h64]; exact st2_at)⟩)
    · exact wp_ifp h2 (e_ref hI.k64 (bad (fun q => h2 q.2.1)))
theorem op_classForms {a : Int} (hI : Core kw K I J A w) (ha : -2147483648 ≤ a ∧ a < 2147483648) : Both (f_X10_classForms (some 64) (zi a)) (f_X13_classForms (some 224) (zi a)) (Post kw K A w) (K, I, J, A) := by
  unfold Both f_X10_classForms
  have bad : ¬ (3 ≤ a ∧ a ≤ 999 ∧ (a % 4 = 0 ∨ a % 4 = 3)) → wp (f_X13_classForms (some 224) (zi a)) (fun r' h2 => r' = -1 ∧ Post kw K A w h2) (K, st2 I 64 11 2, J, A) := by
    intro hb
    unfold f_X13_classForms
    refine r_start (hI).c (fun I1 hc h64 => ?_)
    refine b_eq (t_inN (lo := 3) (hi := 999) ha (by omega) (by omega)) ?_
    by_cases h1 : 3 ≤ a ∧ a ≤ 999
    · rw [show (decide (((3 : Nat) : Int) ≤ a) && decide (a ≤ ((999 : Nat) : Int))) = true from by simp; omega]
      refine wp_ifn (by decide) ?_
      rw [irem4 (by omega)]
      exact wp_ifn (ieq_f (b := 0) (by omega)) (wp_ifn (ieq_f (b := 3) (by omega)) (r_ref hc.m0 ⟨rfl, fin hc (by rw [h64]; exact st2_at) rfl (by decide)⟩))
    · rw [show (decide (((3 : Nat) : Int) ≤ a) && decide (a ≤ ((999 : Nat) : Int))) = false from by simp; omega]
      exact wp_ifp (by decide) (r_ref hc.m0 ⟨rfl, fin hc (by rw [h64]; exact st2_at) rfl (by decide)⟩)
  by_cases h1 : a < 3
  · exact wp_ifp (ilt_t (b := 3) (by omega)) (e_ref hI.k64 (bad (by omega)))
  · refine wp_ifn (ilt_f (b := 3) (by omega)) ?_
    by_cases h2 : 999 < a
    · exact wp_ifp (igt_t (b := 999) (by omega)) (e_ref hI.k64 (bad (by omega)))
    · refine wp_ifn (igt_f (b := 999) (by omega)) ?_
      rw [irem4 (by omega)]
      refine wp_ifq (zi_inj (b := 1) (by omega) (by omega) (by omega) (by omega)) ?_
      by_cases h3 : a % 4 = 1
      · exact wp_ifp h3 (e_ref hI.k64 (bad (by omega)))
      · refine wp_ifn h3 (wp_ifq (not_congr (zi_inj (b := 2) (by omega) (by omega) (by omega) (by omega))) ?_)
        by_cases h4 : a % 4 = 2
        · exact wp_ifn (fun q => q h4) (e_ref hI.k64 (bad (by omega)))
        · refine wp_ifp h4 ?_
          rw [zi_nn (show 0 ≤ a by omega)]
          refine b_eq (t_classByForms (by omega)) (e_ans hI.k64 ?_)
          rw [← zi_nn (show 0 ≤ a by omega)]
          unfold f_X13_classForms
          refine r_start (hI).c (fun I1 hc h64 => ?_)
          refine b_eq (t_inN (lo := 3) (hi := 999) ha (by omega) (by omega)) ?_
          rw [show (decide (((3 : Nat) : Int) ≤ a) && decide (a ≤ ((999 : Nat) : Int))) = true from by simp; omega]
          refine wp_ifn (by decide) ?_
          rw [irem4 (by omega)]
          have go : wp (f_X13_classForms_j35 (some 224) (zi a)) (fun r' h2 => r' = zn (cfO a.toNat 20 1 0) ∧ Post kw K A w h2) (K, I1, J, A) := by
            rw [zi_nn (show 0 ≤ a by omega)]
            exact t_classFormsR (by omega) (r_good hc.m0 ⟨rfl, fin0 hc (by rw [h64]; exact st2_at)⟩)
          refine wp_ifq (zi_inj (b := 0) (by omega) (by omega) (by omega) (by omega)) ?_
          by_cases h5 : a % 4 = 0
          · exact wp_ifp h5 go
          · exact wp_ifn h5 (wp_ifp (by rw [show a % 4 = 3 by omega]; rfl) go)
end
