/-! ===== fields, sums: the calls ===== -/
section
variable {β : Type} {kw : Nat → Int64} {K : List (Nat × Nat)} {I I' : Nat → Nat → Int32} {J J' : Nat → Nat → Int64} {A : Nat → Nat → Option Nat} {w : WD}
theorem op_field {a b : Int} (hI : Core kw K I J A w) (ha : -2147483648 ≤ a ∧ a < 2147483648) (hb : -2147483648 ≤ b ∧ b < 2147483648) : Both (f_X10_field (some 64) (zi a) (zi b)) (f_X13_field (some 224) (zi a) (zi b)) (Post kw K A w) (K, I, J, A) := by
  unfold Both f_X10_field
  refine b_getA hI.k64 hI.a8 (b_ck hI.cbs.1 (b_eq (t_fat hI ha) ?_))
  by_cases hf : 0 ≤ a ∧ a < bnf w.2.1
  · obtain ⟨hF, hC, hpn, h4⟩ := hI.fld (show a.toNat < bnf w.2.1 by omega)
    have hr := pn_rng hpn
    rw [atF_t hf]
    refine wp_ifn (by simp) ?_
    have bad : ¬ (0 ≤ b ∧ b ≤ 3) → wp (f_X13_field (some 224) (zi a) (zi b)) (fun r' h2 => r' = -1 ∧ Post kw K A w h2) (K, st2 I 64 11 1, J, A) := by
      intro hb2
      unfold f_X13_field
      refine r_start (hI).c (fun I1 hc h64 => ?_)
      refine b_ck hc.m0.1 (b_eq (t_isField hc.m0.1 hc.rb hc.ok ha) ?_)
      rw [inb_t hf]
      refine wp_ifn (by decide) (b_eq (t_inN (lo := 0) (hi := 3) hb (by omega) (by omega)) ?_)
      rw [show (decide (((0 : Nat) : Int) ≤ b) && decide (b ≤ ((3 : Nat) : Int))) = false from by simp; omega]
      exact wp_ifn (by decide) (r_ref hc.m0 ⟨rfl, fin hc (by rw [h64]; exact st2_at) rfl (by decide)⟩)
    by_cases h1 : b < 0
    · exact wp_ifp (ilt_t (b := 0) (by omega)) (e_ref hI.k64 (bad (by omega)))
    · refine wp_ifn (ilt_f (b := 0) (by omega)) ?_
      by_cases h2 : b ≤ 3
      · refine wp_ifp (ile_t (b := 3) (by omega)) ?_
        have run : ∀ v : Int32, v = (if b = 0 then zn (bfp w.2.1 a.toNat) else if b = 1 then zn (bfn w.2.1 a.toNat) else if b = 2 then zn (rt (bfp w.2.1 a.toNat)) else zn (phi (bfn w.2.1 a.toNat))) → wp (f_X13_field (some 224) (zi a) (zi b)) (fun r' h2 => r' = v ∧ Post kw K A w h2) (K, st2 I 64 11 0, J, A) := by
          intro v hv
          unfold f_X13_field
          refine r_start (hI).c (fun I1 hc h64 => ?_)
          refine b_ck hc.m0.1 (b_eq (t_isField hc.m0.1 hc.rb hc.ok ha) ?_)
          rw [inb_t hf]
          refine wp_ifn (by decide) (b_eq (t_inN (lo := 0) (hi := 3) hb (by omega) (by omega)) ?_)
          rw [show (decide (((0 : Nat) : Int) ≤ b) && decide (b ≤ ((3 : Nat) : Int))) = true from by simp; omega]
          refine wp_ifp (by decide) ?_
          obtain ⟨bk, fo, h3, hbk, hBS, hRBC, hfo, hfo2, hRF, hRC⟩ := hc.rfld (show a.toNat < bnf w.2.1 by omega)
          rw [zi_nn hf.1]
          refine r_fld hc.m0.1 h3 hBS hfo h4 ?_
          refine wp_ifq (not_congr (zi_inj (b := 0) (by omega) (by omega) (by omega) (by omega))) ?_
          by_cases b0 : b = 0
          · rw [if_pos b0] at hv
            exact wp_ifn (fun q => q b0) (b_getIv hRF.1 hRC.1.1 (r_good hc.m0 ⟨hv.symm, fin0 hc (by rw [h64]; exact st2_at)⟩))
          · rw [if_neg b0] at hv
            refine wp_ifp b0 (wp_ifq (not_congr (zi_inj (b := 1) (by omega) (by omega) (by omega) (by omega))) ?_)
            by_cases b1 : b = 1
            · rw [if_pos b1] at hv
              exact wp_ifn (fun q => q b1) (b_getIv hRF.1 hRC.1.2.1 (r_good hc.m0 ⟨hv.symm, fin0 hc (by rw [h64]; exact st2_at)⟩))
            · rw [if_neg b1] at hv
              refine wp_ifp b1 (wp_ifq (not_congr (zi_inj (b := 2) (by omega) (by omega) (by omega) (by omega))) ?_)
              by_cases b2 : b = 2
              · rw [if_pos b2] at hv
                exact wp_ifn (fun q => q b2) (b_getIv hRF.1 hRC.1.2.2.1 (r_good hc.m0 ⟨hv.symm, fin0 hc (by rw [h64]; exact st2_at)⟩))
              · rw [if_neg b2] at hv
                exact wp_ifp b2 (b_getIv hRF.1 hRC.1.2.2.2 (r_good hc.m0 ⟨hv.symm, fin0 hc (by rw [h64]; exact st2_at)⟩))
        refine wp_ifq (zi_inj (b := 0) (by omega) (by omega) (by omega) (by omega)) ?_
        by_cases b0 : b = 0
        · exact wp_ifp b0 (b_ck hF.1 (b_eq (t_prime hF hC) (e_ans hI.k64 (run _ (by rw [if_pos b0])))))
        · refine wp_ifn b0 (wp_ifq (zi_inj (b := 1) (by omega) (by omega) (by omega) (by omega)) ?_)
          by_cases b1 : b = 1
          · exact wp_ifp b1 (b_ck hF.1 (b_eq (t_order hF hC) (e_ans hI.k64 (run _ (by rw [if_neg b0, if_pos b1])))))
          · refine wp_ifn b1 (wp_ifq (zi_inj (b := 2) (by omega) (by omega) (by omega) (by omega)) ?_)
            by_cases b2 : b = 2
            · exact wp_ifp b2 (b_ck hF.1 (b_eq (t_root hF hC hpn) (e_ans hI.k64 (run _ (by rw [if_neg b0, if_neg b1, if_pos b2])))))
            · exact wp_ifn b2 (b_ck hF.1 (b_eq (t_rowLength hI.ot hF hC hpn) (e_ans hI.k64 (run _ (by rw [if_neg b0, if_neg b1, if_neg b2])))))
      · exact wp_ifn (ile_f (b := 3) (by omega)) (e_ref hI.k64 (bad (by omega)))
  · rw [atF_f hf]
    refine wp_ifp rfl (e_ref hI.k64 ?_)
    unfold f_X13_field
    refine r_start (hI).c (fun I1 hc h64 => ?_)
    refine b_ck hc.m0.1 (b_eq (t_isField hc.m0.1 hc.rb hc.ok ha) ?_)
    rw [inb_f hf]
    exact wp_ifp (by decide) (r_ref hc.m0 ⟨rfl, fin hc (by rw [h64]; exact st2_at) rfl (by decide)⟩)
theorem op_log {a b : Int} (hI : Core kw K I J A w) (ha : -2147483648 ≤ a ∧ a < 2147483648) (hb : -2147483648 ≤ b ∧ b < 2147483648) : Both (f_X10_log (some 64) (zi a) (zi b)) (f_X13_log (some 224) (zi a) (zi b)) (Post kw K A w) (K, I, J, A) := by
  unfold Both f_X10_log
  refine b_getA hI.k64 hI.a8 (b_ck hI.cbs.1 (b_eq (t_fat hI ha) ?_))
  by_cases hf : 0 ≤ a ∧ a < bnf w.2.1
  · obtain ⟨hF, hC, hpn, h4⟩ := hI.fld (show a.toNat < bnf w.2.1 by omega)
    have hr := pn_rng hpn
    rw [atF_t hf]
    refine wp_ifn (by simp) (b_ck hF.1 (b_eq (t_hasUnit hF hC (by omega) hb) ?_))
    by_cases hu : 1 ≤ b ∧ b < bfp w.2.1 a.toNat
    · rw [in1_t hu]
      refine wp_ifp (by decide) (b_ck hF.1 ?_)
      rw [zi_nn (show 0 ≤ b by omega)]
      refine b_eq (t_logOf hF hC hpn (by omega) (by omega)) (e_ans hI.k64 ?_)
      rw [← zi_nn (show 0 ≤ b by omega)]
      unfold f_X13_log
      refine r_start (hI).c (fun I1 hc h64 => ?_)
      refine b_ck hc.m0.1 (b_eq (t_isField hc.m0.1 hc.rb hc.ok ha) ?_)
      rw [inb_t hf]
      refine wp_ifp (by decide) ?_
      obtain ⟨bk, fo, h3, hbk, hBS, hRBC, hfo, hfo2, hRF, hRC⟩ := hc.rfld (show a.toNat < bnf w.2.1 by omega)
      rw [zi_nn hf.1]
      refine r_fld hc.m0.1 h3 hBS hfo h4 (b_getIv hRF.1 hRC.1.1 ?_)
      rw [zn_pred1 (by omega)]
      refine b_eq (t_inN (lo := 1) hb (by omega) (by omega)) ?_
      rw [show (decide (((1 : Nat) : Int) ≤ b) && decide (b ≤ ((bfp w.2.1 a.toNat - 1 : Nat) : Int))) = true from by simp; omega]
      refine wp_ifn (by decide) (r_fld hc.m0.1 h3 hBS hfo h4 (b_getA hRF.1 hRF.2.1.1 ?_))
      rw [zi_nn (show 0 ≤ b by omega)]
      refine b_ldI hRF.2.2.1.1 (by omega) (by omega) ?_
      rw [hRC.2.1 _ (by omega) (by omega)]
      exact r_good hc.m0 ⟨rfl, fin0 hc (by rw [h64]; exact st2_at)⟩
    · rw [in1_f hu]
      refine wp_ifn (by decide) (e_ref hI.k64 ?_)
      unfold f_X13_log
      refine r_start (hI).c (fun I1 hc h64 => ?_)
      refine b_ck hc.m0.1 (b_eq (t_isField hc.m0.1 hc.rb hc.ok ha) ?_)
      rw [inb_t hf]
      refine wp_ifp (by decide) ?_
      obtain ⟨bk, fo, h3, hbk, hBS, hRBC, hfo, hfo2, hRF, hRC⟩ := hc.rfld (show a.toNat < bnf w.2.1 by omega)
      rw [zi_nn hf.1]
      refine r_fld hc.m0.1 h3 hBS hfo h4 (b_getIv hRF.1 hRC.1.1 ?_)
      rw [zn_pred1 (by omega)]
      refine b_eq (t_inN (lo := 1) hb (by omega) (by omega)) ?_
      rw [show (decide (((1 : Nat) : Int) ≤ b) && decide (b ≤ ((bfp w.2.1 a.toNat - 1 : Nat) : Int))) = false from by simp; omega]
      exact wp_ifp (by decide) (r_ref hc.m0 ⟨rfl, fin hc (by rw [h64]; exact st2_at) rfl (by decide)⟩)
  · rw [atF_f hf]
    refine wp_ifp rfl (e_ref hI.k64 ?_)
    unfold f_X13_log
    refine r_start (hI).c (fun I1 hc h64 => ?_)
    refine b_ck hc.m0.1 (b_eq (t_isField hc.m0.1 hc.rb hc.ok ha) ?_)
    rw [inb_f hf]
    exact wp_ifn (by decide) (r_ref hc.m0 ⟨rfl, fin hc (by rw [h64]; exact st2_at) rfl (by decide)⟩)
theorem inO_t {B : BKD} {a b : Int} (hf : 0 ≤ a ∧ a < bnf B) (hb : 0 ≤ b ∧ b < bfn B a.toNat) : (decide (0 ≤ a) && decide (a < bnf B) && decide (0 ≤ b) && decide (b < bfn B a.toNat)) = true := by simp; omega
theorem inO_f {B : BKD} {a b : Int} (h : ¬ ((0 ≤ a ∧ a < bnf B) ∧ 0 ≤ b ∧ b < bfn B a.toNat)) : (decide (0 ≤ a) && decide (a < bnf B) && decide (0 ≤ b) && decide (b < bfn B a.toNat)) = false := by
  rw [← Bool.not_eq_true]
  intro q
  simp only [Bool.and_eq_true, decide_eq_true_eq] at q
  exact h ⟨⟨q.1.1.1, q.1.1.2⟩, q.1.2, q.2⟩
theorem op_character {a b c : Int} (hI : Core kw K I J A w) (ha : -2147483648 ≤ a ∧ a < 2147483648) (hb : -2147483648 ≤ b ∧ b < 2147483648) (hc : -2147483648 ≤ c ∧ c < 2147483648) : Both (f_X10_character (some 64) (zi a) (zi b) (zi c)) (f_X13_character (some 224) (zi a) (zi b) (zi c)) (Post kw K A w) (K, I, J, A) := by
  unfold Both f_X10_character
  refine b_getA hI.k64 hI.a8 (b_ck hI.cbs.1 (b_eq (t_fat hI ha) ?_))
  have bad1 : ¬ ((0 ≤ a ∧ a < bnf w.2.1) ∧ 0 ≤ b ∧ b < bfn w.2.1 a.toNat) → wp (f_X13_character (some 224) (zi a) (zi b) (zi c)) (fun r' h2 => r' = -1 ∧ Post kw K A w h2) (K, st2 I 64 11 1, J, A) := by
    intro hbad
    unfold f_X13_character
    refine r_start (hI).c (fun I1 hc h64 => ?_)
    refine b_ck hc.m0.1 (b_eq (t_isOrder hc.m0.1 hc.rb hc.ok ha hb) ?_)
    rw [inO_f hbad]
    exact wp_ifn (by decide) (r_ref hc.m0 ⟨rfl, fin hc (by rw [h64]; exact st2_at) rfl (by decide)⟩)
  by_cases hf : 0 ≤ a ∧ a < bnf w.2.1
  · obtain ⟨hF, hC, hpn, h4⟩ := hI.fld (show a.toNat < bnf w.2.1 by omega)
    have hr := pn_rng hpn
    rw [atF_t hf]
    refine wp_ifn (by simp) (b_ck hF.1 (b_eq (t_hasCharacter hF hC (by omega) hb) ?_))
    by_cases hu : 0 ≤ b ∧ b < bfn w.2.1 a.toNat
    · rw [inb_t hu]
      refine wp_ifp (by decide) (b_ck hF.1 (b_eq (t_hasNumber hF hC (by omega) hc) ?_))
      by_cases hx : 0 ≤ c ∧ c < bfp w.2.1 a.toNat
      · rw [inb_t hx]
        refine wp_ifp (by decide) (b_ck hF.1 ?_)
        rw [zi_nn hu.1, zi_nn hx.1]
        refine b_eq (t_character hF hC hpn (by omega) (by omega)) (e_ans hI.k64 ?_)
        rw [← zi_nn hu.1, ← zi_nn hx.1]
        have hcc := hc
        unfold f_X13_character
        refine r_start (hI).c (fun I1 hc h64 => ?_)
        refine b_ck hc.m0.1 (b_eq (t_isOrder hc.m0.1 hc.rb hc.ok ha hb) ?_)
        rw [inO_t hf hu]
        refine wp_ifp (by decide) ?_
        obtain ⟨bk, fo, h3, hbk, hBS, hRBC, hfo, hfo2, hRF, hRC⟩ := hc.rfld (show a.toNat < bnf w.2.1 by omega)
        rw [zi_nn hf.1]
        refine r_fld hc.m0.1 h3 hBS hfo h4 (b_getIv hRF.1 hRC.1.1 ?_)
        rw [zn_pred1 (by omega)]
        refine b_eq (t_inN (lo := 0) hcc (by omega) (by omega)) ?_
        rw [show (decide (((0 : Nat) : Int) ≤ c) && decide (c ≤ ((bfp w.2.1 a.toNat - 1 : Nat) : Int))) = true from by simp; omega]
        refine wp_ifn (by decide) (r_fld hc.m0.1 h3 hBS hfo h4 ?_)
        rw [zi_nn hu.1, zi_nn hx.1]
        refine b_eq (t_atR hRF hRC hpn (by omega) (by omega)) ?_
        rw [Nat.mod_eq_of_lt (by omega)]
        exact r_good hc.m0 ⟨rfl, fin0 hc (by rw [h64]; exact st2_at)⟩
      · rw [inb_f hx]
        refine wp_ifn (by decide) (e_ref hI.k64 ?_)
        have hcc := hc
        unfold f_X13_character
        refine r_start (hI).c (fun I1 hc h64 => ?_)
        refine b_ck hc.m0.1 (b_eq (t_isOrder hc.m0.1 hc.rb hc.ok ha hb) ?_)
        rw [inO_t hf hu]
        refine wp_ifp (by decide) ?_
        obtain ⟨bk, fo, h3, hbk, hBS, hRBC, hfo, hfo2, hRF, hRC⟩ := hc.rfld (show a.toNat < bnf w.2.1 by omega)
        rw [zi_nn hf.1]
        refine r_fld hc.m0.1 h3 hBS hfo h4 (b_getIv hRF.1 hRC.1.1 ?_)
        rw [zn_pred1 (by omega)]
        refine b_eq (t_inN (lo := 0) hcc (by omega) (by omega)) ?_
        rw [show (decide (((0 : Nat) : Int) ≤ c) && decide (c ≤ ((bfp w.2.1 a.toNat - 1 : Nat) : Int))) = false from by simp; omega]
        exact wp_ifp (by decide) (r_ref hc.m0 ⟨rfl, fin hc (by rw [h64]; exact st2_at) rfl (by decide)⟩)
    · rw [inb_f hu]
      exact wp_ifn (by decide) (e_ref hI.k64 (bad1 (fun q => hu q.2)))
  · rw [atF_f hf]
    exact wp_ifp rfl (e_ref hI.k64 (bad1 (fun q => hf q.1)))
theorem op_power {a b c : Int} (hI : Core kw K I J A w) (ha : -2147483648 ≤ a ∧ a < 2147483648) (hb : -2147483648 ≤ b ∧ b < 2147483648) (hc : -2147483648 ≤ c ∧ c < 2147483648) : Both (f_X10_power (some 64) (zi a) (zi b) (zi c)) (f_X13_power (some 224) (zi a) (zi b) (zi c)) (Post kw K A w) (K, I, J, A) := by
  unfold Both f_X10_power
  refine b_getA hI.k64 hI.a8 (b_ck hI.cbs.1 (b_eq (t_fat hI ha) ?_))
  have hcc := hc
  by_cases hf : 0 ≤ a ∧ a < bnf w.2.1
  · obtain ⟨hF, hC, hpn, h4⟩ := hI.fld (show a.toNat < bnf w.2.1 by omega)
    have hr := pn_rng hpn
    rw [atF_t hf]
    have bad2 : ¬ ((1 ≤ b ∧ b < bfp w.2.1 a.toNat) ∧ 1 ≤ c ∧ c ≤ 12) → wp (f_X13_power (some 224) (zi a) (zi b) (zi c)) (fun r' h2 => r' = -1 ∧ Post kw K A w h2) (K, st2 I 64 11 2, J, A) := by
      intro hbad
      unfold f_X13_power
      refine r_start (hI).c (fun I1 hc h64 => ?_)
      refine b_ck hc.m0.1 (b_eq (t_isField hc.m0.1 hc.rb hc.ok ha) ?_)
      rw [inb_t hf]
      refine wp_ifp (by decide) ?_
      obtain ⟨bk, fo, h3, hbk, hBS, hRBC, hfo, hfo2, hRF, hRC⟩ := hc.rfld (show a.toNat < bnf w.2.1 by omega)
      rw [zi_nn hf.1]
      refine r_fld hc.m0.1 h3 hBS hfo h4 (b_getIv hRF.1 hRC.1.1 ?_)
      rw [zn_pred1 (by omega)]
      refine b_eq (t_inN (lo := 1) hb (by omega) (by omega)) ?_
      by_cases hu : 1 ≤ b ∧ b < bfp w.2.1 a.toNat
      · rw [show (decide (((1 : Nat) : Int) ≤ b) && decide (b ≤ ((bfp w.2.1 a.toNat - 1 : Nat) : Int))) = true from by simp; omega]
        refine wp_ifn (by decide) (b_eq (t_inN (lo := 1) (hi := 12) hcc (by omega) (by omega)) ?_)
        rw [show (decide (((1 : Nat) : Int) ≤ c) && decide (c ≤ ((12 : Nat) : Int))) = false from by simp; omega]
        exact wp_ifn (by decide) (r_ref hc.m0 ⟨rfl, fin hc (by rw [h64]; exact st2_at) rfl (by decide)⟩)
      · rw [show (decide (((1 : Nat) : Int) ≤ b) && decide (b ≤ ((bfp w.2.1 a.toNat - 1 : Nat) : Int))) = false from by simp; omega]
        exact wp_ifp (by decide) (r_ref hc.m0 ⟨rfl, fin hc (by rw [h64]; exact st2_at) rfl (by decide)⟩)
    refine wp_ifn (by simp) (b_ck hF.1 (b_eq (t_hasUnit hF hC (by omega) hb) ?_))
    by_cases hu : 1 ≤ b ∧ b < bfp w.2.1 a.toNat
    · rw [in1_t hu]
      refine wp_ifn (by decide) ?_
      by_cases h1 : c < 1
      · exact wp_ifp (ilt_t (b := 1) (by omega)) (e_ref hI.k64 (bad2 (by omega)))
      · refine wp_ifn (ilt_f (b := 1) (by omega)) ?_
        by_cases h2 : c ≤ 12
        · refine wp_ifp (ile_t (b := 12) (by omega)) (b_ck hF.1 ?_)
          have hl := lg_lt hpn.1 (show 1 ≤ b.toNat by omega) (show b.toNat < bfp w.2.1 a.toNat by omega)
          have hg : Nat.gcd c.toNat (bfp w.2.1 a.toNat - 1) ≤ c.toNat := Nat.le_of_dvd (by omega) (Nat.gcd_dvd_left _ _)
          have hg1 : 1 ≤ Nat.gcd c.toNat (bfp w.2.1 a.toNat - 1) := Nat.gcd_pos_of_pos_left _ (by omega)
          have hm := Nat.mod_lt (lg (bfp w.2.1 a.toNat) b.toNat) (show Nat.gcd c.toNat (bfp w.2.1 a.toNat - 1) > 0 by omega)
          have run : ∀ v : Int32, v = (if lg (bfp w.2.1 a.toNat) b.toNat % Nat.gcd c.toNat (bfp w.2.1 a.toNat - 1) = 0 then 1 else 0) → wp (f_X13_power (some 224) (zi a) (zi b) (zi c)) (fun r' h2 => r' = v ∧ Post kw K A w h2) (K, st2 I 64 11 0, J, A) := by
            intro v hv
            unfold f_X13_power
            refine r_start (hI).c (fun I1 hc h64 => ?_)
            refine b_ck hc.m0.1 (b_eq (t_isField hc.m0.1 hc.rb hc.ok ha) ?_)
            rw [inb_t hf]
            refine wp_ifp (by decide) ?_
            obtain ⟨bk, fo, h3, hbk, hBS, hRBC, hfo, hfo2, hRF, hRC⟩ := hc.rfld (show a.toNat < bnf w.2.1 by omega)
            rw [zi_nn hf.1]
            refine r_fld hc.m0.1 h3 hBS hfo h4 (b_getIv hRF.1 hRC.1.1 ?_)
            rw [zn_pred1 (by omega)]
            refine b_eq (t_inN (lo := 1) hb (by omega) (by omega)) ?_
            rw [show (decide (((1 : Nat) : Int) ≤ b) && decide (b ≤ ((bfp w.2.1 a.toNat - 1 : Nat) : Int))) = true from by simp; omega]
            refine wp_ifn (by decide) (b_eq (t_inN (lo := 1) (hi := 12) hcc (by omega) (by omega)) ?_)
            rw [show (decide (((1 : Nat) : Int) ≤ c) && decide (c ≤ ((12 : Nat) : Int))) = true from by simp; omega]
            refine wp_ifp (by decide) (r_fld hc.m0.1 h3 hBS hfo h4 (b_getA hRF.1 hRF.2.1.1 ?_))
            rw [zi_nn (show 0 ≤ b by omega), zi_nn (show 0 ≤ c by omega)]
            refine b_ldI hRF.2.2.1.1 (by omega) (by omega) ?_
            rw [hRC.2.1 _ (by omega) (by omega)]
            refine r_fld hc.m0.1 h3 hBS hfo h4 (b_getIv hRF.1 hRC.1.1 ?_)
            rw [zn_pred1 (by omega)]
            refine b_eq (t_divisor (by omega) (by omega)) ?_
            rw [Nat.gcd_comm]
            refine wp_rq (by rw [zn0 (by omega)]; omega) ?_
            rw [irem_zn (by omega) (by omega)]
            refine wp_ifq (not_congr (zn0 (by omega))) ?_
            by_cases hz : lg (bfp w.2.1 a.toNat) b.toNat % Nat.gcd c.toNat (bfp w.2.1 a.toNat - 1) = 0
            · rw [if_pos hz] at hv
              exact wp_ifn (fun q => q hz) (r_good hc.m0 ⟨hv.symm, fin0 hc (by rw [h64]; exact st2_at)⟩)
            · rw [if_neg hz] at hv
              exact wp_ifp hz (r_good hc.m0 ⟨hv.symm, fin0 hc (by rw [h64]; exact st2_at)⟩)
          unfold f_X2_isPower
          rw [show zi b = zn b.toNat from zi_nn (by omega), show zi c = zn c.toNat from zi_nn (by omega)] at *
          refine b_assoc (b_ck hF.1 (b_eq (t_logOf hF hC hpn (by omega) (by omega)) (b_assoc (b_getIv hF.1 hC.1 ?_))))
          rw [zn_pred1 (by omega), zn_zi (bfp w.2.1 a.toNat - 1)]
          refine b_assoc (b_eq (t_commonPart (by omega) (by omega)) ?_)
          rw [Int.natAbs_natCast]
          refine b_assoc (b_eq (t_modn (zn_i64 (by omega)) (by omega) (by omega)) (b_ite (wp_ifq (not_congr (zn0 (by omega))) ?_)))
          by_cases hz : lg (bfp w.2.1 a.toNat) b.toNat % Nat.gcd c.toNat (bfp w.2.1 a.toNat - 1) = 0
          · exact wp_ifn (fun q => q hz) (b_rt (wp_ifn (by decide) (e_ans hI.k64 (run 1 (by rw [if_pos hz])))))
          · exact wp_ifp hz (b_rt (wp_ifp (by decide) (e_ans hI.k64 (run 0 (by rw [if_neg hz])))))
        · exact wp_ifn (ile_f (b := 12) (by omega)) (e_ref hI.k64 (bad2 (by omega)))
    · rw [in1_f hu]
      exact wp_ifp (by decide) (e_ref hI.k64 (bad2 (fun q => hu q.1)))
  · rw [atF_f hf]
    refine wp_ifp rfl (e_ref hI.k64 ?_)
    unfold f_X13_power
    refine r_start (hI).c (fun I1 hc h64 => ?_)
    refine b_ck hc.m0.1 (b_eq (t_isField hc.m0.1 hc.rb hc.ok ha) ?_)
    rw [inb_f hf]
    exact wp_ifn (by decide) (r_ref hc.m0 ⟨rfl, fin hc (by rw [h64]; exact st2_at) rfl (by decide)⟩)
theorem op_meets {a b c : Int} (hI : Core kw K I J A w) (ha : -2147483648 ≤ a ∧ a < 2147483648) (hb : -2147483648 ≤ b ∧ b < 2147483648) (hc : -2147483648 ≤ c ∧ c < 2147483648) : Both (f_X10_meets (some 64) (zi a) (zi b) (zi c)) (f_X13_meets (some 224) (zi a) (zi b) (zi c)) (Post kw K A w) (K, I, J, A) := by
  unfold Both f_X10_meets
  refine b_getA hI.k64 hI.a8 (b_ck hI.cbs.1 (b_eq (t_fat hI ha) ?_))
  have hcc := hc
  refine b_eq (t_hasSum hI hb hc) ?_
  cases h : areO w.2.1 a b c with
  | false =>
    refine wp_ifn (by decide) (e_ref hI.k64 ?_)
    unfold f_X13_meets
    refine r_start (hI).c (fun I1 hc h64 => ?_)
    refine b_ck hc.m0.1 (b_eq (t_areOrders hc.m0.1 hc.rb hc.ok ha hb hcc) ?_)
    rw [h]
    exact wp_ifn (by decide) (r_ref hc.m0 ⟨rfl, fin hc (by rw [h64]; exact st2_at) rfl (by decide)⟩)
  | true =>
    obtain ⟨hf, h5, h6⟩ := areO_t h
    obtain ⟨hF, hC, hpn, h4⟩ := hI.fld (show a.toNat < bnf w.2.1 by omega)
    have hr := pn_rng hpn
    rw [atF_t hf]
    refine wp_ifp (by decide) (b_ck hF.1 (b_eq (t_meetings hF hC hpn) (e_ans hI.k64 ?_)))
    unfold f_X13_meets
    refine r_start (hI).c (fun I1 hc h64 => ?_)
    refine b_ck hc.m0.1 (b_eq (t_areOrders hc.m0.1 hc.rb hc.ok ha hb hcc) ?_)
    rw [h]
    refine wp_ifp (by decide) ?_
    obtain ⟨bk, fo, h3, hbk, hBS, hRBC, hfo, hfo2, hRF, hRC⟩ := hc.rfld (show a.toNat < bnf w.2.1 by omega)
    rw [zi_nn hf.1]
    exact r_fld hc.m0.1 h3 hBS hfo h4 (t_meetsR hRF hRC hpn (r_good hc.m0 ⟨rfl, fin0 hc (by rw [h64]; exact st2_at)⟩))
theorem Core.ev {f : Nat} (h : Core kw K I J A w) (hf : f < 4) (hI' : ∀ b, b ≠ w.1 + 16 + 4 * f + 3 → I' b = I b) : Core kw K I' J A w := h.ii (fun b hb => hI' b (fun e => hb (by unfold scrI; omega)))
theorem op_even {a : Int} (hI : Core kw K I J A w) (ha : -2147483648 ≤ a ∧ a < 2147483648) : Both (f_X10_even (some 64) (zi a)) (f_X13_even (some 224) (zi a)) (Post kw K A w) (K, I, J, A) := by
  unfold Both f_X10_even
  refine b_getA hI.k64 hI.a8 (b_ck hI.cbs.1 (b_eq (t_fat hI ha) ?_))
  by_cases hf : 0 ≤ a ∧ a < bnf w.2.1
  · obtain ⟨hF, hC, hpn, h4⟩ := hI.fld (show a.toNat < bnf w.2.1 by omega)
    have hr := pn_rng hpn
    rw [atF_t hf]
    refine wp_ifn (by simp) (b_ck hF.1 (wp_bd (t_evenness hF hC hpn (fun I2 hf2 => e_ans hI.k64 ?_))))
    have hI2 := hI.ev h4 hf2
    unfold f_X13_even
    refine r_start (hI2).c (fun I1 hc h64 => ?_)
    refine b_ck hc.m0.1 (b_eq (t_isField hc.m0.1 hc.rb hc.ok ha) ?_)
    rw [inb_t hf]
    refine wp_ifp (by decide) ?_
    obtain ⟨bk, fo, h3, hbk, hBS, hRBC, hfo, hfo2, hRF, hRC⟩ := hc.rfld (show a.toNat < bnf w.2.1 by omega)
    rw [zi_nn hf.1]
    exact r_fld hc.m0.1 h3 hBS hfo h4 (t_evenR hRF hRC hpn (r_good hc.m0 ⟨rfl, fin0 hc (by rw [h64]; exact st2_at)⟩))
  · rw [atF_f hf]
    refine wp_ifp rfl (e_ref hI.k64 ?_)
    unfold f_X13_even
    refine r_start (hI).c (fun I1 hc h64 => ?_)
    refine b_ck hc.m0.1 (b_eq (t_isField hc.m0.1 hc.rb hc.ok ha) ?_)
    rw [inb_f hf]
    exact wp_ifn (by decide) (r_ref hc.m0 ⟨rfl, fin hc (by rw [h64]; exact st2_at) rfl (by decide)⟩)
end
