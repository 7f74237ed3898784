/-! ===== rows of signs, sums: the calls ===== -/
section
variable {β : Type} {kw : Nat → Int64} {K : List (Nat × Nat)} {I I' : Nat → Nat → Int32} {J J' : Nat → Nat → Int64} {A : Nat → Nat → Option Nat} {w : WD}
theorem Core.s1 (h : Core kw K I J A w) (hf : ∀ b, b ≠ 165 → b ≠ 165 + 1 → I' b = I b) : Core kw K I' J A w := h.ii (fun b hb => hf b (by unfold scrI at hb; omega) (by unfold scrI at hb; omega))
theorem Core.s2 (h : Core kw K I J A w) (hf : ∀ b, b ≠ 165 + 2 → I' b = I b) : Core kw K I' J A w := h.ii (fun b hb => hf b (by unfold scrI at hb; omega))
theorem Core.g6 (h : Core kw K I J A w) (hf : ∀ b, b ≠ 224 + 6 → I' b = I b) : Core kw K I' J A w := h.ii (fun b hb => hf b (by unfold scrI at hb; omega))
theorem op_echo {a b c : Int} (hI : Core kw K I J A w) (ha : -2147483648 ≤ a ∧ a < 2147483648) (hb : -2147483648 ≤ b ∧ b < 2147483648) (hc : -2147483648 ≤ c ∧ c < 2147483648) : Both (f_X10_echo (some 64) (zi a) (zi b) (zi c)) (f_X13_echo (some 224) (zi a) (zi b) (zi c)) (Post kw K A w) (K, I, J, A) := by
  unfold Both f_X10_echo
  refine b_getA hI.k64 hI.a8 (b_ck hI.cbs.1 (b_eq (t_fat hI ha) ?_))
  have hcc := hc
  have hnb := hI.nb
  by_cases hf : 0 ≤ a ∧ a < bnf w.2.1
  · obtain ⟨hF, hC, hpn, h4⟩ := hI.fld (show a.toNat < bnf w.2.1 by omega)
    have hr := pn_rng hpn
    rw [atF_t hf]
    -- the reference, refused by a number
    have bad : ¬ ((0 ≤ b ∧ b < bfp w.2.1 a.toNat) ∧ 0 ≤ c ∧ c < bfp w.2.1 a.toNat) → wp (f_X13_echo (some 224) (zi a) (zi b) (zi c)) (fun r' h2 => r' = -1000 ∧ Post kw K A w h2) (K, st2 I 64 11 2, J, A) := by
      intro hbad
      unfold f_X13_echo
      refine r_start (hI).c (fun I1 hc h64 => ?_)
      unfold f_X13_refusesTurn
      refine b_ck hc.m0.1 (b_assoc (b_ck hc.m0.1 (b_eq (t_isField hc.m0.1 hc.rb hc.ok ha) ?_)))
      rw [inb_t hf]
      refine b_ite (wp_ifp (by decide) ?_)
      obtain ⟨bk, fo, h3, hbk, hBS, hRBC, hfo, hfo2, hRF, hRC⟩ := hc.rfld (show a.toNat < bnf w.2.1 by omega)
      rw [zi_nn hf.1]
      refine b_assoc (b_getA hc.m0.1 h3 (b_assoc (b_getA hBS.1 hBS.2.1.1 (b_assoc (b_ldA hBS.2.2.1.1 (by decide) h4 (by omega) ?_)))))
      rw [hfo]
      refine b_assoc (b_getIv hRF.1 hRC.1.1 ?_)
      rw [zn_pred1 (by omega)]
      refine b_assoc (b_eq (t_inN (lo := 0) hb (by omega) (by omega)) ?_)
      by_cases hu : 0 ≤ b ∧ b < bfp w.2.1 a.toNat
      · rw [show (decide (((0 : Nat) : Int) ≤ b) && decide (b ≤ ((bfp w.2.1 a.toNat - 1 : Nat) : Int))) = true from by simp; omega]
        refine b_ite (wp_ifn (by decide) (b_rt (wp_ifn (by decide) (r_fld hc.m0.1 h3 hBS hfo h4 (b_getIv hRF.1 hRC.1.1 ?_)))))
        rw [zn_pred1 (by omega)]
        refine b_eq (t_inN (lo := 0) hcc (by omega) (by omega)) ?_
        rw [show (decide (((0 : Nat) : Int) ≤ c) && decide (c ≤ ((bfp w.2.1 a.toNat - 1 : Nat) : Int))) = false from by simp; omega]
        refine wp_ifn (by decide) ?_
        unfold f_X13_echo_j43
        exact wp_ifn (by decide) (r_by hc.m0 ⟨rfl, fin hc (by rw [h64]; exact st2_at) rfl (by decide)⟩)
      · rw [show (decide (((0 : Nat) : Int) ≤ b) && decide (b ≤ ((bfp w.2.1 a.toNat - 1 : Nat) : Int))) = false from by simp; omega]
        refine b_ite (wp_ifp (by decide) (b_rt (wp_ifp (by decide) ?_)))
        unfold f_X13_echo_j43
        exact wp_ifn (by decide) (r_by hc.m0 ⟨rfl, fin hc (by rw [h64]; exact st2_at) rfl (by decide)⟩)
    refine wp_ifn (by simp) (b_ck hF.1 (b_eq (t_hasNumber hF hC (by omega) hb) ?_))
    by_cases hu : 0 ≤ b ∧ b < bfp w.2.1 a.toNat
    · rw [inb_t hu]
      refine wp_ifn (by decide) (b_ck hF.1 (b_eq (t_hasNumber hF hC (by omega) hc) ?_))
      by_cases hx : 0 ≤ c ∧ c < bfp w.2.1 a.toNat
      · rw [inb_t hx]
        refine wp_ifp (by decide) (b_getA hI.k64 (a64 hI).2.2.2.1 (b_ck hI.ss.1 (wp_bd (t_sbecome hI.ss hF hC hpn (by omega) (fun I2 hf2 hSC => b_getA hI.k64 (a64 hI).2.2.2.1 (b_ck hI.ss.1 ?_))))))
        have hI2 := hI.s1 hf2
        rw [zi_nn hu.1, zi_nn hx.1]
        refine b_eq (t_echoAt hI.ss hSC (by omega) (by omega) (by omega)) (e_ans hI.k64 ?_)
        rw [← zi_nn hu.1, ← zi_nn hx.1]
        unfold f_X13_echo
        refine r_start (hI2).c (fun I1 hc h64 => ?_)
        unfold f_X13_refusesTurn
        refine b_ck hc.m0.1 (b_assoc (b_ck hc.m0.1 (b_eq (t_isField hc.m0.1 hc.rb hc.ok ha) ?_)))
        rw [inb_t hf]
        refine b_ite (wp_ifp (by decide) ?_)
        obtain ⟨bk, fo, h3, hbk, hBS, hRBC, hfo, hfo2, hRF, hRC⟩ := hc.rfld (show a.toNat < bnf w.2.1 by omega)
        rw [zi_nn hf.1]
        refine b_assoc (b_getA hc.m0.1 h3 (b_assoc (b_getA hBS.1 hBS.2.1.1 (b_assoc (b_ldA hBS.2.2.1.1 (by decide) h4 (by omega) ?_)))))
        rw [hfo]
        refine b_assoc (b_getIv hRF.1 hRC.1.1 ?_)
        rw [zn_pred1 (by omega)]
        refine b_assoc (b_eq (t_inN (lo := 0) hb (by omega) (by omega)) ?_)
        rw [show (decide (((0 : Nat) : Int) ≤ b) && decide (b ≤ ((bfp w.2.1 a.toNat - 1 : Nat) : Int))) = true from by simp; omega]
        refine b_ite (wp_ifn (by decide) (b_rt (wp_ifn (by decide) (r_fld hc.m0.1 h3 hBS hfo h4 (b_getIv hRF.1 hRC.1.1 ?_)))))
        rw [zn_pred1 (by omega)]
        refine b_eq (t_inN (lo := 0) hcc (by omega) (by omega)) ?_
        rw [show (decide (((0 : Nat) : Int) ≤ c) && decide (c ≤ ((bfp w.2.1 a.toNat - 1 : Nat) : Int))) = true from by simp; omega]
        refine wp_ifp (by decide) ?_
        unfold f_X13_echo_j43
        refine wp_ifp (by decide) (r_fld hc.m0.1 h3 hBS hfo h4 (b_ck hc.m0.1 ?_))
        rw [zi_nn hu.1, zi_nn hx.1]
        refine wp_bd (t_rowOf hc.ms hRF hRC hpn (by omega) (by omega) (fun I3 hf3 hv3 => r_fld hc.m0.1 h3 hBS hfo h4 (b_ck hc.m0.1 ?_)))
        refine b_eq (t_echoOf hc.ms hRF (hRC.mvI (hf3 _ (by omega)) (hf3 _ (by omega))) hpn (by omega) hv3) (r_good hc.m0 ⟨rfl, fin0 (hc.g6 hf3) ?_⟩)
        rw [hf3 64 (by decide), h64]; exact st2_at
      · rw [inb_f hx]
        exact wp_ifn (by decide) (e_ref hI.k64 (bad (fun q => hx q.2)))
    · rw [inb_f hu]
      exact wp_ifp (by decide) (e_ref hI.k64 (bad (fun q => hu q.1)))
  · rw [atF_f hf]
    refine wp_ifp rfl (e_ref hI.k64 ?_)
    unfold f_X13_echo
    refine r_start (hI).c (fun I1 hc h64 => ?_)
    unfold f_X13_refusesTurn
    refine b_ck hc.m0.1 (b_assoc (b_ck hc.m0.1 (b_eq (t_isField hc.m0.1 hc.rb hc.ok ha) ?_)))
    rw [inb_f hf]
    refine b_ite (wp_ifn (by decide) (b_rt (wp_ifp (by decide) ?_)))
    unfold f_X13_echo_j43
    exact wp_ifn (by decide) (r_by hc.m0 ⟨rfl, fin hc (by rw [h64]; exact st2_at) rfl (by decide)⟩)
theorem e_refL {Q : Int64 → Hp → Prop} {v x : Int32} (h : kk K 64 = (0, 8)) (q : Q x.toInt64 (K, st2 I 64 11 v, J, A)) : wp (mBd (mCk 8 (some 64) (f_X10_refused (some 64) v x)) (fun r => mRt (r.toInt64))) Q (K, I, J, A) := by
  unfold f_X10_refused
  exact b_ck h (b_assoc (b_putI h (by decide) (b_rt (wp_rt q))))
theorem r_refL {Q : Int64 → Hp → Prop} {v : Int32} (h : kk K 224 = (0, 11) ∧ 64 ≤ 224) (q : Q (-1 : Int32).toInt64 (K, st2 (st2 I 224 1 v) 224 2 (-1), J, A)) : wp (mBd (mCk 11 (some 224) (f_X13_refused (some 224) v)) (fun r => mRt (r.toInt64))) Q (K, I, J, A) := b_ck h.1 (b_eq (t_refused h) (wp_rt q))
theorem op_noise {a b : Int} (hI : Core kw K I J A w) (ha : -2147483648 ≤ a ∧ a < 2147483648) (hb : -2147483648 ≤ b ∧ b < 2147483648) : Both (f_X10_noise (some 64) (zi a) (zi b)) (f_X13_noise (some 224) (zi a) (zi b)) (Post kw K A w) (K, I, J, A) := by
  unfold Both f_X10_noise
  refine b_getA hI.k64 hI.a8 (b_ck hI.cbs.1 (b_eq (t_fat hI ha) ?_))
  have hnb := hI.nb
  by_cases hf : 0 ≤ a ∧ a < bnf w.2.1
  · obtain ⟨hF, hC, hpn, h4⟩ := hI.fld (show a.toNat < bnf w.2.1 by omega)
    have hr := pn_rng hpn
    rw [atF_t hf]
    refine wp_ifn (by simp) (b_ck hF.1 (b_eq (t_hasNumber hF hC (by omega) hb) ?_))
    by_cases hu : 0 ≤ b ∧ b < bfp w.2.1 a.toNat
    · rw [inb_t hu]
      have hI1 : Core kw K (st2 I 64 11 0) J A w := hI.c
      refine wp_ifp (by decide) (b_putI hI.k64 (by decide) (b_getA hI.k64 (a64 hI).2.2.2.1 (b_ck hI.ss.1 (wp_bd (t_sbecome hI.ss hF (hI1.fld (show a.toNat < bnf w.2.1 by omega)).2.1 hpn (by omega) (fun I2 hf2 hSC => b_getA hI.k64 (a64 hI).2.2.2.1 (b_ck hI.ss.1 ?_)))))))
      have hI2 := hI1.s1 hf2
      have h640 : I2 64 11 = zn 0 := by rw [hf2 64 (by decide) (by decide)]; exact st2_at
      rw [zi_nn hu.1]
      refine b_eq (t_noiseAt hI.ss hSC (by omega) (by omega)) (wp_rt ?_)
      rw [← zi_nn hu.1]
      unfold f_X13_noise
      refine r_start hI2 (fun I1 hc h64 => ?_)
      unfold f_X13_refusesTurn
      refine b_ck hc.m0.1 (b_assoc (b_ck hc.m0.1 (b_eq (t_isField hc.m0.1 hc.rb hc.ok ha) ?_)))
      rw [inb_t hf]
      refine b_ite (wp_ifp (by decide) ?_)
      obtain ⟨bk, fo, h3, hbk, hBS, hRBC, hfo, hfo2, hRF, hRC⟩ := hc.rfld (show a.toNat < bnf w.2.1 by omega)
      rw [zi_nn hf.1]
      refine b_assoc (b_getA hc.m0.1 h3 (b_assoc (b_getA hBS.1 hBS.2.1.1 (b_assoc (b_ldA hBS.2.2.1.1 (by decide) h4 (by omega) ?_)))))
      rw [hfo]
      refine b_assoc (b_getIv hRF.1 hRC.1.1 ?_)
      rw [zn_pred1 (by omega)]
      refine b_assoc (b_eq (t_inN (lo := 0) hb (by omega) (by omega)) ?_)
      rw [show (decide (((0 : Nat) : Int) ≤ b) && decide (b ≤ ((bfp w.2.1 a.toNat - 1 : Nat) : Int))) = true from by simp; omega]
      refine b_ite (wp_ifn (by decide) (b_rt (wp_ifp (by decide) (r_fld hc.m0.1 h3 hBS hfo h4 (b_ck hc.m0.1 ?_)))))
      rw [zi_nn hu.1]
      refine wp_bd (t_noiseOf hc.ms hRF hRC hpn (by omega) (by omega) (fun I3 hf3 => r_goodL hc.m0 ⟨rfl, fin0 (hc.g6 hf3) ?_⟩))
      rw [hf3 64 (by decide), h64]; exact h640
    · rw [inb_f hu]
      refine wp_ifn (by decide) (e_refL hI.k64 ?_)
      unfold f_X13_noise
      refine r_start (hI).c (fun I1 hc h64 => ?_)
      unfold f_X13_refusesTurn
      refine b_ck hc.m0.1 (b_assoc (b_ck hc.m0.1 (b_eq (t_isField hc.m0.1 hc.rb hc.ok ha) ?_)))
      rw [inb_t hf]
      refine b_ite (wp_ifp (by decide) ?_)
      obtain ⟨bk, fo, h3, hbk, hBS, hRBC, hfo, hfo2, hRF, hRC⟩ := hc.rfld (show a.toNat < bnf w.2.1 by omega)
      rw [zi_nn hf.1]
      refine b_assoc (b_getA hc.m0.1 h3 (b_assoc (b_getA hBS.1 hBS.2.1.1 (b_assoc (b_ldA hBS.2.2.1.1 (by decide) h4 (by omega) ?_)))))
      rw [hfo]
      refine b_assoc (b_getIv hRF.1 hRC.1.1 ?_)
      rw [zn_pred1 (by omega)]
      refine b_assoc (b_eq (t_inN (lo := 0) hb (by omega) (by omega)) ?_)
      rw [show (decide (((0 : Nat) : Int) ≤ b) && decide (b ≤ ((bfp w.2.1 a.toNat - 1 : Nat) : Int))) = false from by simp; omega]
      exact b_ite (wp_ifp (by decide) (b_rt (wp_ifn (by decide) (r_refL hc.m0 ⟨rfl, fin hc (by rw [h64]; exact st2_at) rfl (by decide)⟩))))
  · rw [atF_f hf]
    refine wp_ifp rfl (e_refL hI.k64 ?_)
    unfold f_X13_noise
    refine r_start (hI).c (fun I1 hc h64 => ?_)
    unfold f_X13_refusesTurn
    refine b_ck hc.m0.1 (b_assoc (b_ck hc.m0.1 (b_eq (t_isField hc.m0.1 hc.rb hc.ok ha) ?_)))
    rw [inb_f hf]
    exact b_ite (wp_ifn (by decide) (b_rt (wp_ifn (by decide) (r_refL hc.m0 ⟨rfl, fin hc (by rw [h64]; exact st2_at) rfl (by decide)⟩))))
theorem op_lowest {a : Int} (hI : Core kw K I J A w) (ha : -2147483648 ≤ a ∧ a < 2147483648) : Both (f_X10_lowest (some 64) (zi a)) (f_X13_lowest (some 224) (zi a)) (Post kw K A w) (K, I, J, A) := by
  unfold Both f_X10_lowest
  refine b_getA hI.k64 hI.a8 (b_ck hI.cbs.1 (b_eq (t_fat hI ha) ?_))
  have hnb := hI.nb
  by_cases hf : 0 ≤ a ∧ a < bnf w.2.1
  · obtain ⟨hF, hC, hpn, h4⟩ := hI.fld (show a.toNat < bnf w.2.1 by omega)
    have hr := pn_rng hpn
    rw [atF_t hf]
    refine wp_ifn (by simp) (b_getA hI.k64 (a64 hI).2.2.2.1 (b_ck hI.ss.1 (wp_bd (t_sbecome hI.ss hF hC hpn (by omega) (fun I2 hf2 hSC => b_getA hI.k64 (a64 hI).2.2.2.1 (b_ck hI.ss.1 (wp_bd (t_leastNoisy hI.ss hSC (by omega) (fun I3 hf3 => e_ans hI.k64 ?_)))))))))
    have hI3 := (hI.s1 hf2).s2 hf3
    unfold f_X13_lowest
    refine r_start (hI3).c (fun I1 hc h64 => ?_)
    refine b_ck hc.m0.1 (b_eq (t_isField hc.m0.1 hc.rb hc.ok ha) ?_)
    rw [inb_t hf]
    refine wp_ifp (by decide) ?_
    obtain ⟨bk, fo, h3, hbk, hBS, hRBC, hfo, hfo2, hRF, hRC⟩ := hc.rfld (show a.toNat < bnf w.2.1 by omega)
    rw [zi_nn hf.1]
    refine r_fld hc.m0.1 h3 hBS hfo h4 (b_ck hc.m0.1 (wp_bd (t_noiseOf (r := 0) hc.ms hRF hRC hpn (by omega) (by omega) (fun I4 hf4 => ?_))))
    have hc4 := hc.g6 hf4
    refine t_lowestR hc.ms hBS h3 h4 hfo hRF (hRC.mvI (hf4 _ (by omega)) (hf4 _ (by omega))) hpn (by omega) (fun I5 hf5 => r_good hc.m0 ⟨rfl, fin0 (hc4.g6 hf5) ?_⟩)
    rw [hf5 64 (by decide), hf4 64 (by decide), h64]; exact st2_at
  · rw [atF_f hf]
    refine wp_ifp rfl (e_ref hI.k64 ?_)
    unfold f_X13_lowest
    refine r_start (hI).c (fun I1 hc h64 => ?_)
    refine b_ck hc.m0.1 (b_eq (t_isField hc.m0.1 hc.rb hc.ok ha) ?_)
    rw [inb_f hf]
    exact wp_ifn (by decide) (r_ref hc.m0 ⟨rfl, fin hc (by rw [h64]; exact st2_at) rfl (by decide)⟩)
/-! sums -/
theorem rv_eq {m r k : Nat} : J (m + 1) (r * 12 + k) = rv J m r k := rfl
theorem op_sum {a b c d : Int} (hI : Core kw K I J A w) (ha : -2147483648 ≤ a ∧ a < 2147483648) (hb : -2147483648 ≤ b ∧ b < 2147483648) (hc : -2147483648 ≤ c ∧ c < 2147483648) (hd : -2147483648 ≤ d ∧ d < 2147483648) : Both (f_X10_sum (some 64) (zi a) (zi b) (zi c) (zi d)) (f_X13_sum (some 224) (zi a) (zi b) (zi c) (zi d)) (Post kw K A w) (K, I, J, A) := by
  unfold Both f_X10_sum
  refine b_getA hI.k64 hI.a8 (b_ck hI.cbs.1 (b_eq (t_fat hI ha) ?_))
  have hcc := hc
  refine b_eq (t_hasSum hI hb hc) ?_
  cases h : areO w.2.1 a b c with
  | false =>
    refine wp_ifp (by decide) (e_ref hI.k64 ?_)
    unfold f_X13_sum
    refine r_start (hI).c (fun I1 hc h64 => ?_)
    refine b_ck hc.m0.1 (b_eq (t_areOrders hc.m0.1 hc.rb hc.ok ha hb hcc) ?_)
    rw [h]
    exact wp_ifp (by decide) (r_by hc.m0 ⟨rfl, fin hc (by rw [h64]; exact st2_at) rfl (by decide)⟩)
  | true =>
    obtain ⟨hf, h5, h6⟩ := areO_t h
    obtain ⟨hF, hC, hpn, h4⟩ := hI.fld (show a.toNat < bnf w.2.1 by omega)
    have hr := pn_rng hpn
    have hp := phi_rng hr.2.2.1 hr.2.2.2
    rw [atF_t hf]
    refine wp_ifn (by decide) ?_
    have bad : ¬ (0 ≤ d ∧ d < phi (bfn w.2.1 a.toNat)) → wp (f_X13_sum (some 224) (zi a) (zi b) (zi c) (zi d)) (fun r' h2 => r' = -1000 ∧ Post kw K A w h2) (K, st2 I 64 11 1, J, A) := by
      intro hbad
      unfold f_X13_sum
      refine r_start (hI).c (fun I1 hc h64 => ?_)
      refine b_ck hc.m0.1 (b_eq (t_areOrders hc.m0.1 hc.rb hc.ok ha hb hcc) ?_)
      rw [h]
      refine wp_ifn (by decide) ?_
      obtain ⟨bk, fo, h3, hbk, hBS, hRBC, hfo, hfo2, hRF, hRC⟩ := hc.rfld (show a.toNat < bnf w.2.1 by omega)
      rw [zi_nn hf.1]
      refine r_fld hc.m0.1 h3 hBS hfo h4 (b_getIv hRF.1 hRC.1.2.2.2 ?_)
      rw [zn_pred1 (by omega)]
      refine b_eq (t_inN (lo := 0) hd (by omega) (by omega)) ?_
      rw [show (decide (((0 : Nat) : Int) ≤ d) && decide (d ≤ ((phi (bfn w.2.1 a.toNat) - 1 : Nat) : Int))) = false from by simp; omega]
      exact wp_ifn (by decide) (r_by hc.m0 ⟨rfl, fin hc (by rw [h64]; exact st2_at) rfl (by decide)⟩)
    by_cases h1 : d < 0
    · exact wp_ifp (ilt_t (b := 0) (by omega)) (e_ref hI.k64 (bad (by omega)))
    · refine wp_ifn (ilt_f (b := 0) (by omega)) (b_ck hF.1 (b_eq (t_rowLength hI.ot hF hC hpn) ?_))
      rw [zn_zi (phi _)]
      by_cases h2 : d < phi (bfn w.2.1 a.toNat)
      · refine wp_ifp (ilt_t (by omega)) (b_getA hI.k64 (a64 hI).2.1 (b_getA hI.k64 (a64 hI).2.2.2.2.1 (b_ck hF.1 ?_)))
        rw [zi_nn h5.1, zi_nn h6.1, zi_nn (show 0 ≤ d by omega)]
        refine wp_bd (t_jacobiSum hI.ot hF hC hpn hI.rg (by omega) (by omega) hI.rows.1 (by decide) (by decide) (fun J1 hf1 hv1 => b_getA hI.k64 (a64 hI).2.2.2.2.1 (b_eq (t_atp hI.rows.1 (by omega) (by omega)) ?_)))
        rw [hv1 _ (by omega)]
        refine e_ans hI.k64 ?_
        rw [← zi_nn h5.1, ← zi_nn h6.1, ← zi_nn (show 0 ≤ d by omega)]
        have hI1 := hI.j1 (Or.inl rfl) hf1
        unfold f_X13_sum
        refine r_start (hI1).c (fun I1 hc h64 => ?_)
        refine b_ck hc.m0.1 (b_eq (t_areOrders hc.m0.1 hc.rb hc.ok ha hb hcc) ?_)
        rw [h]
        refine wp_ifn (by decide) ?_
        obtain ⟨bk, fo, h3, hbk, hBS, hRBC, hfo, hfo2, hRF, hRC⟩ := hc.rfld (show a.toNat < bnf w.2.1 by omega)
        rw [zi_nn hf.1]
        refine r_fld hc.m0.1 h3 hBS hfo h4 (b_getIv hRF.1 hRC.1.2.2.2 ?_)
        rw [zn_pred1 (by omega)]
        refine b_eq (t_inN (lo := 0) hd (by omega) (by omega)) ?_
        rw [show (decide (((0 : Nat) : Int) ≤ d) && decide (d ≤ ((phi (bfn w.2.1 a.toNat) - 1 : Nat) : Int))) = true from by simp; omega]
        refine wp_ifp (by decide) (r_fld hc.m0.1 h3 hBS hfo h4 (b_ck hc.m0.1 ?_))
        rw [zi_nn h5.1, zi_nn h6.1, zi_nn (show 0 ≤ d by omega)]
        refine wp_bd (t_jacobiRow (to := 0) hc.ms hRF hRC (by omega) (by omega) hpn (by omega) (by omega) (by omega) (fun J2 hf2 hv2 => b_getA hc.m0.1 hc.ms.2.1.1 (b_ldJ hc.ms.2.2.1.1 (by omega) (by omega) ?_)))
        have e := hv2 d.toNat (by omega)
        unfold rv at e
        rw [Nat.zero_mul, Nat.zero_add] at e
        rw [e]
        exact r_good hc.m0 ⟨rfl, fin0 (hc.jr hf2) (by rw [h64]; exact st2_at)⟩
      · exact wp_ifn (ilt_f (by omega)) (e_ref hI.k64 (bad (by omega)))
theorem op_norm {a b c : Int} (hI : Core kw K I J A w) (ha : -2147483648 ≤ a ∧ a < 2147483648) (hb : -2147483648 ≤ b ∧ b < 2147483648) (hc : -2147483648 ≤ c ∧ c < 2147483648) : Both (f_X10_norm (some 64) (zi a) (zi b) (zi c)) (f_X13_norm (some 224) (zi a) (zi b) (zi c)) (Post kw K A w) (K, I, J, A) := by
  unfold Both f_X10_norm
  refine b_getA hI.k64 hI.a8 (b_ck hI.cbs.1 (b_eq (t_fat hI ha) ?_))
  have hcc := hc
  refine b_eq (t_hasSum hI hb hc) ?_
  cases h : areO w.2.1 a b c with
  | false =>
    refine wp_ifn (by decide) (e_ref hI.k64 ?_)
    unfold f_X13_norm
    refine r_start (hI).c (fun I1 hc h64 => ?_)
    refine b_ck hc.m0.1 (b_eq (t_areOrders hc.m0.1 hc.rb hc.ok ha hb hcc) ?_)
    rw [h]
    exact wp_ifn (by decide) (r_ref hc.m0 ⟨rfl, fin hc (by rw [h64]; exact st2_at) rfl (by decide)⟩)
  | true =>
    obtain ⟨hf, h5, h6⟩ := areO_t h
    obtain ⟨hF, hC, hpn, h4⟩ := hI.fld (show a.toNat < bnf w.2.1 by omega)
    have hr := pn_rng hpn
    have hp := phi_rng hr.2.2.1 hr.2.2.2
    obtain ⟨hA0, hA1, hA2, hA3, hA4, hA5, hA6, hA7, hA8⟩ := a64 hI
    obtain ⟨k1, k2, k3, k4⟩ := hI.rows
    rw [atF_t hf]
    -- what comes out
    generalize hx : jac (bfp w.2.1 a.toNat) (bfn w.2.1 a.toNat) b.toNat c.toNat = x
    generalize hy : mul (bfn w.2.1 a.toNat) x (tun (bfn w.2.1 a.toNat) (bfn w.2.1 a.toNat - 1) x) = y
    have hy10 : y 10 = 0 ∧ y 11 = 0 := by rw [← hy]; exact res_10 hr.2.2.1 hr.2.2.2
    have run : ∀ (J1 : Nat → Nat → Int64) (v : Int32), Core kw K I J1 A w → v = (if who 10 y then (y 0).toInt32 else -2) → wp (f_X13_norm (some 224) (zi a) (zi b) (zi c)) (fun r' h2 => r' = v ∧ Post kw K A w h2) (K, st2 I 64 11 0, J1, A) := by
      intro J1 v hI1 hv
      unfold f_X13_norm
      refine r_start (hI1).c (fun I1 hc h64 => ?_)
      refine b_ck hc.m0.1 (b_eq (t_areOrders hc.m0.1 hc.rb hc.ok ha hb hcc) ?_)
      rw [h]
      refine wp_ifp (by decide) ?_
      obtain ⟨bk, fo, h3, hbk, hBS, hRBC, hfo, hfo2, hRF, hRC⟩ := hc.rfld (show a.toNat < bnf w.2.1 by omega)
      rw [zi_nn hf.1]
      refine r_fld hc.m0.1 h3 hBS hfo h4 (b_ck hc.m0.1 ?_)
      rw [zi_nn h5.1, zi_nn h6.1]
      refine wp_bd (t_jacobiRow (to := 0) hc.ms hRF hRC (by omega) (by omega) hpn (by omega) (by omega) (by omega) (fun J2 hf2 hv2 => b_getIv hRF.1 hRC.1.2.1 ?_))
      have hRC2 := hRC.mv (hf2.1 _ (by omega) (by omega))
      rw [zn_pred1 (by omega)]
      refine b_ck hc.m0.1 (wp_bd (t_turnedR (a := 0) (to := 1) hc.ms hRF hRC2 (by omega) (by omega) (by omega) (by omega) (by omega) (by omega) (fun J3 hf3 hv3 => ?_)))
      have hRC3 := hRC2.mv (hf3.1 _ (by omega) (by omega))
      refine b_ck hc.m0.1 (wp_bd (t_multiplyR (a := 0) (b := 1) (to := 2) hc.ms hRF hRC3 (by omega) (by omega) (by omega) (by omega) (by omega) (by omega) (fun J4 hf4 hv4 => ?_)))
      have hrow : ∀ k, k < 12 → rv J4 224 2 k = y k := by
        intro k hk
        rw [hv4 k hk, ← hy, mul_congr (x' := x) (y' := tun (bfn w.2.1 a.toNat) (bfn w.2.1 a.toNat - 1) x)]
        · intro j hj
          rw [hf3.row (by omega) j (by omega), hv2 j (by omega), hx]
        · intro j hj
          rw [hv3 j (by omega), tun_congr (x' := x)]
          intro i hi
          rw [hv2 i (by omega), hx]
      have ew : who 12 (rv J4 224 2) = who 10 y := by
        rw [who_12 (f := y) (g := y) (fun _ _ => rfl) hy10]
        apply Bool.eq_iff_iff.mpr
        rw [who_iff, who_iff]
        constructor
        · intro q i h1 h2; rw [← hrow i h2]; exact q i h1 h2
        · intro q i h1 h2; rw [hrow i h2]; exact q i h1 h2
      refine b_ck hc.m0.1 (b_eq (t_isWholeR (a := 2) hc.ms (by omega)) ?_)
      rw [ew]
      have hc4 := ((hc.jr hf2).jr hf3).jr hf4
      cases hw : who 10 y with
      | false =>
        rw [hw, if_neg (by decide)] at hv
        exact wp_ifp (by decide) (r_good hc.m0 ⟨hv.symm, fin0 hc4 (by rw [h64]; exact st2_at)⟩)
      | true =>
        rw [hw, if_pos rfl] at hv
        refine wp_ifn (by decide) (b_getA hc.m0.1 hc.ms.2.1.1 (b_ldJ (j := 24) hc.ms.2.2.1.1 (by omega) (by omega) ?_))
        have e : J4 225 24 = y 0 := hrow 0 (by omega)
        rw [e]
        exact r_good hc.m0 ⟨hv.symm, fin0 hc4 (by rw [h64]; exact st2_at)⟩
    refine wp_ifp (by decide) (b_ck hF.1 (b_eq (t_order hF hC) (b_getA hI.k64 hA1 (b_getA hI.k64 hA4 (b_ck hF.1 ?_)))))
    rw [show zi b = zn b.toNat from zi_nn h5.1, show zi c = zn c.toNat from zi_nn h6.1] at *
    refine wp_bd (t_jacobiSum hI.ot hF hC hpn hI.rg (by omega) (by omega) k1 (by decide) (by decide) (fun J1 hf1 hv1 => b_getA hI.k64 hA1 (b_getA hI.k64 hA4 (b_getA hI.k64 hA5 (b_ck hI.rg.1 ?_)))))
    rw [zn_pred1 (by omega)]
    refine wp_bd (t_turnRow hI.ot hI.rg (by omega) (by omega) k1 k2 (by decide) (by decide) (by decide) (fun J2 hf2 hv2 => b_getA hI.k64 hA1 (b_getA hI.k64 hA4 (b_getA hI.k64 hA5 (b_getA hI.k64 hA6 (b_ck hI.rg.1 ?_))))))
    refine wp_bd (t_multiply hI.ot hI.rg (by omega) k1 k2 k3 (by decide) (by decide) (by decide) (by decide) (fun J3 hf3 hv3 => b_getA hI.k64 hA6 (b_eq (t_isWhole k3 (by omega)) ?_)))
    have hI3 := ((hI.j1 (Or.inl rfl) hf1).j1 (Or.inr (Or.inl rfl)) hf2).j1 (Or.inr (Or.inr (Or.inl rfl))) hf3
    have hrow : ∀ k, k < 10 → J3 170 k = y k := by
      intro k hk
      rw [hv3 k hk, ← hy, mul_congr (x' := x) (y' := tun (bfn w.2.1 a.toNat) (bfn w.2.1 a.toNat - 1) x)]
      · intro j hj
        rw [hf2 168 (by decide) (by decide), hv1 j (by omega), hx]
      · intro j hj
        rw [hv2 j (by omega), tun_congr (x' := x)]
        intro i hi
        rw [hv1 i (by omega), hx]
    have ew : who 10 (J3 170) = who 10 y := by
      apply Bool.eq_iff_iff.mpr
      rw [who_iff, who_iff]
      constructor
      · intro q i h1 h2; rw [← hrow i h2]; exact q i h1 h2
      · intro q i h1 h2; rw [hrow i h2]; exact q i h1 h2
    rw [ew]
    cases hw : who 10 y with
    | false => exact wp_ifp (by decide) (e_ans hI.k64 (run J3 (-2) hI3 (by rw [hw]; rfl)))
    | true =>
      refine wp_ifn (by decide) (b_getA hI.k64 hA6 (b_eq (t_atp (j := 0) k3 (by omega) (by omega)) (e_ans hI.k64 (run J3 _ hI3 ?_))))
      rw [hw, hrow 0 (by omega)]; rfl
end
