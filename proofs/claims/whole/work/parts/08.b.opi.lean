/-! ===== registers: times ===== -/
section
variable {β : Type} {kw : Nat → Int64} {K : List (Nat × Nat)} {I I' : Nat → Nat → Int32} {J J' : Nat → Nat → Int64} {A : Nat → Nat → Option Nat} {w : WD}
theorem op_times {a b : Int} (hI : Core kw K I J A w) (ha : -2147483648 ≤ a ∧ a < 2147483648) (hb : -2147483648 ≤ b ∧ b < 2147483648) : Both (f_X10_times (some 64) (zi a) (zi b)) (f_X13_times (some 224) (zi a) (zi b)) (PostE kw K A) (K, I, J, A) := by
  unfold Both f_X10_times
  have hnb := hI.nb
  obtain ⟨k1, k2, k3, k4⟩ := hI.rows
  obtain ⟨hA0, hA1, hA2, hA3, hA4, hA5, hA6, hA7, hA8⟩ := a64 hI
  refine b_ck hI.k64 (b_eq (t_for hI ha) ?_)
  by_cases hg : (0 ≤ a ∧ a < 4) ∧ 0 < bnf w.2.1
  · rw [foR_t hg]
    refine wp_ifn (by simp) (b_ck hI.k64 (b_eq (t_for hI hb) ?_))
    by_cases hg2 : (0 ≤ b ∧ b < 4) ∧ 0 < bnf w.2.1
    · rw [foR_t hg2]
      obtain ⟨hF, hC, hpn, h4, hlt⟩ := hI.cur hg.2
      have hr := pn_rng hpn
      have hp := phi_rng hr.2.2.1 hr.2.2.2
      refine wp_ifn (by simp) (b_getA hI.k64 hA2 (b_getA hI.k64 hA4 (b_ck hI.gs.1 ?_)))
      rw [zi_nn hg.1.1, zi_nn hg2.1.1]
      refine wp_bd (t_copyOut hI.gs hI.rgc (by omega) k1 (by decide) (by decide) (fun J1 hf1 hv1 => b_getA hI.k64 hA2 (b_getA hI.k64 hA5 (b_ck hI.gs.1 ?_))))
      have hI1 := hI.j0 (Or.inl rfl) hf1
      refine wp_bd (t_copyOut hI.gs hI1.rgc (by omega) k2 (by decide) (by decide) (fun J2 hf2 hv2 => b_getA hI.k64 hA1 (b_getA hI.k64 hA4 (b_getA hI.k64 hA5 (b_getA hI.k64 hA6 (b_ck hF.1 (b_eq (t_order hF hC) (b_ck hI.rg.1 ?_))))))))
      have hI2 := hI1.j0 (Or.inr (Or.inl rfl)) hf2
      refine wp_bd (t_multiply hI.ot hI.rg (by omega) k1 k2 k3 (by decide) (by decide) (by decide) (by decide) (fun J3 hf3 hv3 => b_getA hI.k64 hA6 (b_ck hI.k64 (wp_bd ?_))))
      have hI3 := hI2.j1 (Or.inr (Or.inr (Or.inl rfl))) hf3
      generalize hy : mul (bfn w.2.1 w.2.2.1.1) (w.2.2.1.2 a.toNat) (w.2.2.1.2 b.toNat) = y
      have hz : ∀ i, 10 ≤ i → y i = 0 := fun i hi => by rw [← hy]; exact res_hi (by omega)
      have hrow : ∀ i, i < 10 → J3 170 i = y i := fun i hi => by
        rw [hv3 i hi, ← hy, mul_congr (x' := w.2.2.1.2 a.toNat) (y' := w.2.2.1.2 b.toNat)]
        · intro j hj; rw [hf2 168 (by decide), hv1 j (by omega)]
        · intro j hj; rw [hv2 j (by omega)]
      have run : ∀ (I0 : Nat → Nat → Int32) (J0 : Nat → Nat → Int64) (Q : Int32 → Hp → Prop), RCore K I0 J0 A w → (∀ I4 J4, RCore K I4 J4 A w → (∀ b, b ≠ 224 → I4 b = I0 b) → (∀ j, 3 ≤ j → I4 224 j = I0 224 j) → (∀ b, ¬ scrJ w.1 b → J4 b = J0 b) → (∀ i, i < 12 → rv J4 224 2 i = y i) → wp (mBd (mCk 11 (some 224) (f_X13_isHuge (some 224) 2)) fun r5 => if r5 = 0 then mBd (mCk 11 (some 224) (f_X13_stores (some 224) 2 (zi a))) fun r6 => mRq (r6 = 0 ∨ r6 = 1) (mRt r6) else mBd (mCk 11 (some 224) (f_X13_denied (some 224) 7)) fun r7 => mRq (r7 = 0 ∨ r7 = 1) (mRt r7)) Q (K, I4, J4, A)) → wp (f_X13_times (some 224) (zi a) (zi b)) Q (K, I0, J0, A) := by
        intro I0 J0 Q hR0 hq
        unfold f_X13_times
        refine r_startR hR0 (fun I4 hc ha4 hb4 => b_ck hc.1.1 (b_eq (t_isRegister hc.1.1 hc.2.1 ha) ?_))
        rw [reg_t hg]
        refine wp_ifn (by decide) (b_ck hc.1.1 (b_eq (t_isRegister hc.1.1 hc.2.1 hb) ?_))
        rw [reg_t hg2]
        refine wp_ifp (by decide) (b_ck hc.1.1 ?_)
        rw [show zi b = zn b.toNat from zi_nn hg2.1.1, show f_X13_loads (some 224) (zi a) 0 = f_X13_loads (some 224) (zn a.toNat) 0 from by rw [zi_nn hg.1.1]]
        refine wp_bd (t_loads (to := 0) hc.1 hc.2.2.2 (by omega) (by omega) (fun J4 hf4 hv4 => b_ck hc.1.1 ?_))
        have hc4 := hc.jr hf4
        refine wp_bd (t_loads (to := 1) hc4.1 hc4.2.2.2 (by omega) (by omega) (fun J5 hf5 hv5 => b_ck hc.1.1 ?_))
        have hc5 := hc4.jr hf5
        obtain ⟨bk, fo, h3, hbk, hBS, hRBC, hfo2, hRF, hRC, hch, _, _⟩ := hc5.cho hI.oS hg.2
        refine b_eq hch (b_ck hc.1.1 (wp_bd (t_multiplyR (a := 0) (b := 1) (to := 2) hc.1 hRF hRC (by omega) (by omega) (by omega) (by omega) (by omega) (by omega) (fun J6 hf6 hv6 => ?_))))
        refine hq I4 J6 (hc5.jr hf6) ha4 hb4 (fun b hb => ?_) (fun i hi => ?_)
        · rw [jrS hf6 b hb, jrS hf5 b hb, jrS hf4 b hb]
        · rw [hv6 i hi, ← hy, mul_congr (x' := w.2.2.1.2 a.toNat) (y' := w.2.2.1.2 b.toNat)]
          · intro j hj; rw [hf5.row (by omega) j (by omega), hv4 j (by omega)]
          · intro j hj; rw [hv5 j (by omega)]
      refine t_keep hI3 (by omega) k3 (by decide) hrow (fun hh => wp_rq (by decide) (wp_rt ?_)) (fun hh I4 J4 hD => wp_rq (by decide) (wp_rt ?_))
      · rw [← zi_nn hg.1.1, ← zi_nn hg2.1.1]
        refine run _ _ _ hI3.c.toR (fun I4 J4 hc4 ha4 hb4 hj4 hr4 => b_ck hc4.1.1 (b_eq (t_isHugeR (a := 2) hc4.1 (by omega)) ?_))
        rw [hug_congr hr4, hug_12 ⟨hz 10 (by omega), hz 11 (by omega)⟩, hh]
        have hcc4 : Core kw K I4 J4 A w := hI3.c.mv (fun b _ _ h => ha4 b h) (fun j _ => by rw [ha4 64 (by decide)]) hb4 hj4
        refine wp_ifn (by decide) (r_den hcc4.m0 ⟨rfl, (fin hcc4 ?_ rfl (by decide)).e⟩)
        rw [ha4 64 (by decide)]; exact st2_at
      · rw [← zi_nn hg.1.1, ← zi_nn hg2.1.1]
        refine run _ _ _ (hI3.rc hD) (fun I5 J5 hc5 ha5 hb5 hj5 hr5 => b_ck hc5.1.1 (b_eq (t_isHugeR (a := 2) hc5.1 (by omega)) ?_))
        rw [hug_congr hr5, hug_12 ⟨hz 10 (by omega), hz 11 (by omega)⟩, hh]
        refine wp_ifp (by decide) (b_ck hc5.1.1 (wp_bd ?_))
        rw [zi_nn hg.1.1]
        exact t_storesD (fr := 2) hc5 hnb (by omega) (by omega) hr5 (fun I6 J6 hR => wp_rq (by decide) (wp_rt ⟨rfl, done hI3 hD (hR.pre ha5 hb5 hj5) (by decide) (putR_ok hI.oS hz) (actF_ok hI.ule.1 hI.oU hI.oS) (fun j hj => by omega) hI.oM (fun q => by omega)⟩))
    · rw [foR_f hg2]
      refine wp_ifp rfl (e_den hI.k64 ?_)
      unfold f_X13_times
      refine r_start (hI).c (fun I1 hc h64 => ?_)
      refine b_ck hc.m0.1 (b_eq (t_isRegister hc.m0.1 hc.rb ha) ?_)
      rw [reg_t hg]
      refine wp_ifn (by decide) (b_ck hc.m0.1 (b_eq (t_isRegister hc.m0.1 hc.rb hb) ?_))
      rw [reg_f hg2]
      exact wp_ifn (by decide) (r_den hc.m0 ⟨rfl, (fin hc (by rw [h64]; exact st2_at) rfl (by decide)).e⟩)
  · rw [foR_f hg]
    refine wp_ifp rfl (e_den hI.k64 ?_)
    unfold f_X13_times
    refine r_start (hI).c (fun I1 hc h64 => ?_)
    refine b_ck hc.m0.1 (b_eq (t_isRegister hc.m0.1 hc.rb ha) ?_)
    rw [reg_f hg]
    exact wp_ifp (by decide) (r_den hc.m0 ⟨rfl, (fin hc (by rw [h64]; exact st2_at) rfl (by decide)).e⟩)
end
