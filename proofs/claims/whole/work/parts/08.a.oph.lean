/-! ===== registers: the calls, the rest ===== -/
section
variable {β : Type} {kw : Nat → Int64} {K : List (Nat × Nat)} {I I' : Nat → Nat → Int32} {J J' : Nat → Nat → Int64} {A : Nat → Nat → Option Nat} {w : WD}
theorem z_m999 : (-999 : Int32) = zi (-999) := by decide
theorem z_999 : (999 : Int32) = zi 999 := by decide
theorem t_in9 {c : Int} {h : Hp} (hc : -2147483648 ≤ c ∧ c < 2147483648) : f_X13_in (zi c) (-999) 999 h = some (zn (if -999 ≤ c ∧ c ≤ 999 then 1 else 0), h) := by
  rw [z_m999, z_999]
  exact t_in hc (by omega) (by omega)
theorem lt9_t {c : Int} (h : -2147483648 ≤ c ∧ c < -999) : zi c < (-999 : Int32) := by rw [z_m999]; exact ilt_t (by omega)
theorem lt9_f {c : Int} (h : -999 ≤ c ∧ c < 2147483648) : ¬ zi c < (-999 : Int32) := by rw [z_m999]; exact ilt_f (by omega)
theorem le9_t {c : Int} (h : -2147483648 ≤ c ∧ c ≤ 999) : zi c ≤ (999 : Int32) := by rw [z_999]; exact ile_t (by omega)
theorem le9_f {c : Int} (h : 999 < c ∧ c < 2147483648) : ¬ zi c ≤ (999 : Int32) := by rw [z_999]; exact ile_f (by omega)
theorem op_add {a b c : Int} (hI : Core kw K I J A w) (ha : -2147483648 ≤ a ∧ a < 2147483648) (hb : -2147483648 ≤ b ∧ b < 2147483648) (hc : -2147483648 ≤ c ∧ c < 2147483648) : Both (f_X10_add (some 64) (zi a) (zi b) (zi c)) (f_X13_add (some 224) (zi a) (zi b) (zi c)) (PostE kw K A) (K, I, J, A) := by
  unfold Both f_X10_add
  have hnb := hI.nb
  have hcc := hc
  obtain ⟨k1, k2, k3, k4⟩ := hI.rows
  obtain ⟨hA0, hA1, hA2, hA3, hA4, hA5, hA6, hA7, hA8⟩ := a64 hI
  refine b_ck hI.k64 (b_eq (t_for hI ha) ?_)
  by_cases hg : (0 ≤ a ∧ a < 4) ∧ 0 < bnf w.2.1
  · rw [foR_t hg]
    refine wp_ifn (by simp) (b_ck hI.k64 (b_eq (t_for hI hb) ?_))
    by_cases hg2 : (0 ≤ b ∧ b < 4) ∧ 0 < bnf w.2.1
    · rw [foR_t hg2]
      refine wp_ifn (by simp) ?_
      have bad : ¬ (-999 ≤ c ∧ c ≤ 999) → wp (f_X13_add (some 224) (zi a) (zi b) (zi c)) (fun r' h2 => r' = 0 ∧ PostE kw K A h2) (K, st2 I 64 11 2, J, A) := by
        intro hbad
        unfold f_X13_add
        refine r_start (hI).c (fun I1 hc h64 => ?_)
        refine b_ck hc.m0.1 (b_eq (t_isRegister hc.m0.1 hc.rb ha) ?_)
        rw [reg_t hg]
        refine wp_ifn (by decide) (b_ck hc.m0.1 (b_eq (t_isRegister hc.m0.1 hc.rb hb) ?_))
        rw [reg_t hg2]
        refine wp_ifp (by decide) (b_eq (t_in9 hcc) ?_)
        rw [if_neg hbad]
        exact wp_ifn (by decide) (r_den hc.m0 ⟨rfl, (fin hc (by rw [h64]; exact st2_at) rfl (by decide)).e⟩)
      by_cases h1 : c < -999
      · exact wp_ifp (lt9_t (by omega)) (e_den hI.k64 (bad (by omega)))
      · refine wp_ifn (lt9_f (by omega)) ?_
        by_cases h2 : c ≤ 999
        · refine wp_ifp (le9_t (by omega)) (b_getA hI.k64 hA2 (b_getA hI.k64 hA4 (b_ck hI.gs.1 ?_)))
          rw [zi_nn hg.1.1, zi_nn hg2.1.1]
          refine wp_bd (t_copyOut hI.gs hI.rgc (by omega) k1 (by decide) (by decide) (fun J1 hf1 hv1 => b_getA hI.k64 hA2 (b_getA hI.k64 hA5 (b_ck hI.gs.1 ?_))))
          have hI1 := hI.j0 (Or.inl rfl) hf1
          refine wp_bd (t_copyOut hI.gs hI1.rgc (by omega) k2 (by decide) (by decide) (fun J2 hf2 hv2 => b_getA hI.k64 hA4 (b_getA hI.k64 hA5 ?_)))
          have hI2 := hI1.j0 (Or.inr (Or.inl rfl)) hf2
          refine wp_bd (t_addTimes k2 k1 (by decide) (by omega) (by decide) (fun J3 hf3 hv3 => b_getA hI.k64 hA4 (b_ck hI.k64 (wp_bd ?_))))
          have hI3 := hI2.j0 (Or.inl rfl) hf3
          have hrow : ∀ i, i < 10 → J3 168 i = (fun i => w.2.2.1.2 a.toNat i + (zi c).toInt64 * w.2.2.1.2 b.toNat i) i := fun i hi => by
            show _ = w.2.2.1.2 a.toNat i + (zi c).toInt64 * w.2.2.1.2 b.toNat i
            rw [hv3 i hi, hf2 168 (by decide), hv1 i hi, hv2 i hi]
          have hz : ∀ i, 10 ≤ i → (fun i => w.2.2.1.2 a.toNat i + (zi c).toInt64 * w.2.2.1.2 b.toNat i) i = 0 := fun i hi => by
            show w.2.2.1.2 a.toNat i + (zi c).toInt64 * w.2.2.1.2 b.toNat i = 0
            rw [hI.oS.2 _ i hi, hI.oS.2 _ i hi, Int64.mul_zero, Int64.add_zero]
          generalize (fun i => w.2.2.1.2 a.toNat i + (zi c).toInt64 * w.2.2.1.2 b.toNat i) = y at hrow hz
          have run : ∀ (I0 : Nat → Nat → Int32) (J0 : Nat → Nat → Int64) (Q : Int32 → Hp → Prop), RCore K I0 J0 A w → (∀ I4 J4, RCore K I4 J4 A w → (∀ b, b ≠ 224 → I4 b = I0 b) → (∀ j, 3 ≤ j → I4 224 j = I0 224 j) → (∀ b, ¬ scrJ w.1 b → J4 b = J0 b) → (∀ i, i < 12 → rv J4 224 0 i = w.2.2.1.2 a.toNat i + (zi c).toInt64 * w.2.2.1.2 b.toNat i) → wp (mBd (mCk 11 (some 224) (f_X13_isHuge (some 224) 0)) fun r5 => if r5 = 0 then mBd (mCk 11 (some 224) (f_X13_stores (some 224) 0 (zi a))) fun r6 => mRq (r6 = 0 ∨ r6 = 1) (mRt r6) else mBd (mCk 11 (some 224) (f_X13_denied (some 224) 7)) fun r7 => mRq (r7 = 0 ∨ r7 = 1) (mRt r7)) Q (K, I4, J4, A)) → wp (f_X13_add (some 224) (zi a) (zi b) (zi c)) Q (K, I0, J0, A) := by
            intro I0 J0 Q hR0 hq
            unfold f_X13_add
            refine r_startR hR0 (fun I4 hc ha4 hb4 => b_ck hc.1.1 (b_eq (t_isRegister hc.1.1 hc.2.1 ha) ?_))
            rw [reg_t hg]
            refine wp_ifn (by decide) (b_ck hc.1.1 (b_eq (t_isRegister hc.1.1 hc.2.1 hb) ?_))
            rw [reg_t hg2]
            refine wp_ifp (by decide) (b_eq (t_in9 hcc) ?_)
            rw [if_pos (show -999 ≤ c ∧ c ≤ 999 by omega)]
            refine wp_ifp (by decide) (b_ck hc.1.1 ?_)
            rw [show zi b = zn b.toNat from zi_nn hg2.1.1, show f_X13_loads (some 224) (zi a) 0 = f_X13_loads (some 224) (zn a.toNat) 0 from by rw [zi_nn hg.1.1]]
            refine wp_bd (t_loads (to := 0) hc.1 hc.2.2.2 (by omega) (by omega) (fun J4 hf4 hv4 => b_ck hc.1.1 ?_))
            have hc4 := hc.jr hf4
            refine wp_bd (t_loads (to := 1) hc4.1 hc4.2.2.2 (by omega) (by omega) (fun J5 hf5 hv5 => b_ck hc.1.1 ?_))
            have hc5 := hc4.jr hf5
            refine wp_bd (t_added (to := 0) (a := 1) hc.1 (by omega) (by omega) (by omega) (fun J6 hf6 hv6 => ?_))
            refine hq I4 J6 (hc5.jr hf6) ha4 hb4 (fun b hb => ?_) (fun i hi => ?_)
            · rw [jrS hf6 b hb, jrS hf5 b hb, jrS hf4 b hb]
            · rw [hv6 i hi, hf5.row (by omega) i hi, hv4 i hi, hv5 i hi]
          have hrowR : ∀ i, w.2.2.1.2 a.toNat i + (zi c).toInt64 * w.2.2.1.2 b.toNat i = y i := fun i => by
            by_cases h10 : i < 10
            · rw [← hrow i h10, hv3 i h10, hf2 168 (by decide), hv1 i h10, hv2 i h10]
            · rw [hz i (by omega), hI.oS.2 _ i (by omega), hI.oS.2 _ i (by omega), Int64.mul_zero, Int64.add_zero]
          refine t_keep hI3 (by omega) k1 (by decide) hrow (fun hh => wp_rq (by decide) (wp_rt ?_)) (fun hh I4 J4 hD => wp_rq (by decide) (wp_rt ?_))
          · rw [← zi_nn hg.1.1, ← zi_nn hg2.1.1]
            refine run _ _ _ hI3.c.toR (fun I4 J4 hc4 ha4 hb4 hj4 hr4 => b_ck hc4.1.1 (b_eq (t_isHugeR (a := 0) hc4.1 (by omega)) ?_))
            rw [hug_congr (fun i hi => (hr4 i hi).trans (hrowR i)), hug_12 ⟨hz 10 (by omega), hz 11 (by omega)⟩, hh]
            have hcc4 : Core kw K I4 J4 A w := hI3.c.mv (fun b _ _ h => ha4 b h) (fun j _ => by rw [ha4 64 (by decide)]) hb4 hj4
            refine wp_ifn (by decide) (r_den hcc4.m0 ⟨rfl, (fin hcc4 ?_ rfl (by decide)).e⟩)
            rw [ha4 64 (by decide)]; exact st2_at
          · rw [← zi_nn hg.1.1, ← zi_nn hg2.1.1]
            refine run _ _ _ (hI3.rc hD) (fun I5 J5 hc5 ha5 hb5 hj5 hr5 => b_ck hc5.1.1 (b_eq (t_isHugeR (a := 0) hc5.1 (by omega)) ?_))
            rw [hug_congr (fun i hi => (hr5 i hi).trans (hrowR i)), hug_12 ⟨hz 10 (by omega), hz 11 (by omega)⟩, hh]
            refine wp_ifp (by decide) (b_ck hc5.1.1 (wp_bd ?_))
            rw [zi_nn hg.1.1]
            exact t_storesD (fr := 0) hc5 hnb (by omega) (by omega) (fun i hi => (hr5 i hi).trans (hrowR i)) (fun I6 J6 hR => wp_rq (by decide) (wp_rt ⟨rfl, done hI3 hD (hR.pre ha5 hb5 hj5) (by decide) (putR_ok hI.oS hz) (actF_ok hI.ule.1 hI.oU hI.oS) (fun j hj => by omega) hI.oM (fun q => by omega)⟩))
        · exact wp_ifn (le9_f (by omega)) (e_den hI.k64 (bad (by omega)))
    · rw [foR_f hg2]
      refine wp_ifp rfl (e_den hI.k64 ?_)
      unfold f_X13_add
      refine r_start (hI).c (fun I1 hc h64 => ?_)
      refine b_ck hc.m0.1 (b_eq (t_isRegister hc.m0.1 hc.rb ha) ?_)
      rw [reg_t hg]
      refine wp_ifn (by decide) (b_ck hc.m0.1 (b_eq (t_isRegister hc.m0.1 hc.rb hb) ?_))
      rw [reg_f hg2]
      exact wp_ifn (by decide) (r_den hc.m0 ⟨rfl, (fin hc (by rw [h64]; exact st2_at) rfl (by decide)).e⟩)
  · rw [foR_f hg]
    refine wp_ifp rfl (e_den hI.k64 ?_)
    unfold f_X13_add
    refine r_start (hI).c (fun I1 hc h64 => ?_)
    refine b_ck hc.m0.1 (b_eq (t_isRegister hc.m0.1 hc.rb ha) ?_)
    rw [reg_f hg]
    exact wp_ifp (by decide) (r_den hc.m0 ⟨rfl, (fin hc (by rw [h64]; exact st2_at) rfl (by decide)).e⟩)
end
