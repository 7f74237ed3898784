/-! ===== registers: the calls, one by one ===== -/
section
variable {β : Type} {kw : Nat → Int64} {K : List (Nat × Nat)} {I I' : Nat → Nat → Int32} {J J' : Nat → Nat → Int64} {A : Nat → Nat → Option Nat} {w : WD}
theorem bnot {b : Bool} (h : ¬ b = true) : b = false := by simpa using h
theorem t_chooseL {Q : Int32 → Hp → Prop} {f : Nat} {S : RSt} {u : Nat} {U : Nat → RSt} {r : Nat} {R : Nat → RSt} {k : Nat} {M : Nat → RSt} (hM : MS K A 224) (hG : RGR I J 224 S u U r R k M) (hf : f < 1000)
    (q : ∀ J', (∀ b, b ≠ 231 → J' b = J b) → RGR I J' 224 (f, fun _ _ => 0) u U r R k M → Q 1 (K, I, J', A)) : wp (f_X13_choose_l26 (some 224) (zn f) 0) Q (K, I, J, A) := by
  unfold f_X13_choose_l26
  refine for1 (N := 49) (fun k I' J' => I' = I ∧ (∀ b, b ≠ 231 → J' b = J b) ∧ ∀ i, i < k → J' 231 i = if i = 0 then zj f else 0) ?_ ?_ (k := 0) (by omega) (by unfold fuel; omega) ⟨rfl, fun b _ => rfl, fun i _ => by omega⟩
  · rintro k I' J' R' hk ⟨rfl, hf', hv⟩ hR'
    unfold f_X13_choose_b26
    refine wp_ifn (ge_f (b := 49) (by omega)) (b_getA hM.1 hM.2.1.2.2.2.2.2.2.1 ?_)
    have fin : ∀ x : Int64, x = (if k = 0 then zj f else 0) → wp (mBd (mStJ (some 231) (zn k) x) (fun _ => R' (zn k + 1))) Q (K, I', J', A) := by
      intro x hx
      refine b_stJ hM.2.2.1.2.2.2.2.2.2.1 (by decide) (by omega) (by omega) (hR' _ _ ⟨rfl, fun b hb => ?_, fun i hi => ?_⟩)
      · rw [st2_nb hb]; exact hf' b hb
      · by_cases hik : i = k
        · subst hik
          show st2 J' 231 i x 231 i = _
          rw [st2_at, hx]
        · show st2 J' 231 k x 231 i = _
          rw [st2_nk hik]; exact hv i (by omega)
    refine wp_ifq (not_congr (zn0 (by omega))) ?_
    by_cases h0 : k = 0
    · exact wp_ifn (fun q => q h0) (fin _ (by rw [if_pos h0, zn_64 (by omega)]))
    · exact wp_ifp h0 (fin _ (by rw [if_neg h0]))
  · rintro I' J' R' ⟨rfl, hf', hv⟩
    unfold f_X13_choose_b26
    obtain ⟨hi, hur, hS, hU, hR, hMM⟩ := hG
    refine wp_ifp (ge_t (b := 49) (by omega)) (wp_rt (q J' hf' ⟨hi, hur, ⟨hv 0 (by omega), fun r hr i hi => ?_⟩, fun j hj => ?_, fun j hj => ?_, fun j hj => ?_⟩))
    · have := hv (0 * 49 + 1 + r * 12 + i) (by omega)
      rw [if_neg (by omega)] at this
      exact this
    · rw [hf' (224 + 8) (by decide)]; exact hU j hj
    · rw [hf' (224 + 9) (by decide)]; exact hR j hj
    · rw [hf' (224 + 10) (by decide)]; exact hMM j hj
theorem op_choose {a : Int} (hI : Core kw K I J A w) (ha : -2147483648 ≤ a ∧ a < 2147483648) : Both (f_X10_choose (some 64) (zi a)) (f_X13_choose (some 224) (zi a)) (PostE kw K A) (K, I, J, A) := by
  unfold Both f_X10_choose
  refine b_getA hI.k64 hI.a8 (b_ck hI.cbs.1 (b_eq (t_fat hI ha) ?_))
  have hnb := hI.nb
  by_cases hf : 0 ≤ a ∧ a < bnf w.2.1
  · rw [atF_t hf]
    have hn4 := hI.ok.1.1
    refine wp_ifn (by simp) (b_getA hI.k64 (a64 hI).2.2.1 (b_ck hI.gs.1 (wp_bd (t_beginAct hI.gs hI.rgc (fun I1 J1 hf1 hj1 hC1 => b_getA hI.k64 (a64 hI).2.2.1 (b_ck hI.gs.1 ?_))))))
    rw [zi_nn hf.1]
    refine wp_bd (t_clearTo hI.gs hC1 (by omega) (fun J2 hj2 hC2 => e_gra hI.k64 ?_))
    have hD : CDone I J (st2 I1 64 11 0) J2 w 0 (a.toNat, fun _ _ => 0) (actN w.2.2.2.1.1) (actF w.2.2.2.1.1 w.2.2.2.1.2 w.2.2.1) 0 w.2.2.2.2.1.2 w.2.2.2.2.2.1.1 w.2.2.2.2.2.1.2 := by
      refine ⟨fun b h1 h2 h3 => ?_, fun j hj => ?_, st2_at, fun b h1 h2 h3 => ?_, hC2.mv (st2_nb (by decide)) rfl rfl⟩
      · rw [st2_nb h3]; exact hf1 b h2
      · rw [st2_nk hj, hf1 64 (by decide)]
      · rw [hj2 b h2, hj1 b h2]
    unfold f_X13_choose
    refine r_startR (hI.rc hD) (fun I3 hc ha3 hb3 => b_ck hc.1.1 ?_)
    rw [← zi_nn hf.1]
    refine b_eq (t_isField hc.1.1 hc.2.1 hc.2.2.1 ha) ?_
    rw [inb_t hf]
    refine wp_ifp (by decide) (b_ck hc.1.1 (wp_bd (t_acts hc.1 hc.2.2.2 (fun I4 J4 hf4 hg4 h41 h42 hj4 hG4 => ?_))))
    rw [zi_nn hf.1]
    refine t_chooseL hc.1 hG4 (by omega) (fun J5 hj5 hG5 => ⟨rfl, done hI hD (RDone.pre (I1' := I3) (J1' := J2) ⟨fun b _ hb => hf4 b hb, fun j a1 a2 a3 a4 => hg4 j (by omega) (by omega) a2 a3, h41, h42, fun b _ a1 a2 _ _ => (hj5 b a1).trans (hj4 b a2), hG5⟩ ha3 hb3 (fun _ _ => rfl)) (by decide) ⟨Or.inr (by show a.toNat < _; omega), fun _ _ _ => rfl⟩ (actF_ok ?_ hI.oU hI.oS) (fun j hj => by omega) hI.oM (fun q => by omega)⟩)
    obtain ⟨c, x1, x2, x3, x4⟩ := hI.rgc
    omega
  · rw [atF_f hf]
    refine wp_ifp rfl (e_den hI.k64 ?_)
    unfold f_X13_choose
    refine r_start (hI).c (fun I1 hc h64 => ?_)
    refine b_ck hc.m0.1 (b_eq (t_isField hc.m0.1 hc.rb hc.ok ha) ?_)
    rw [inb_f hf]
    exact wp_ifn (by decide) (r_den hc.m0 ⟨rfl, (fin hc (by rw [h64]; exact st2_at) rfl (by decide)).e⟩)
theorem Core.ule (h : Core kw K I J A w) : w.2.2.2.1.1 ≤ 20 ∧ w.2.2.2.2.1.1 ≤ 20 ∧ w.2.2.2.2.2.1.1 ≤ 4 := by
  obtain ⟨c, x1, x2, x3, x4⟩ := h.rgc
  omega
theorem Core.cur (h : Core kw K I J A w) (hn : 0 < bnf w.2.1) : FS K A (w.1 + 16 + 4 * w.2.2.1.1) ∧ FC I (w.1 + 16 + 4 * w.2.2.1.1) (bfp w.2.1 w.2.2.1.1) (bfn w.2.1 w.2.2.1.1) ∧ pn (bfp w.2.1 w.2.2.1.1) (bfn w.2.1 w.2.2.1.1) ∧ w.2.2.1.1 < 4 ∧ w.2.2.1.1 < bnf w.2.1 := by
  have hlt : w.2.2.1.1 < bnf w.2.1 := by rcases h.oS.1 with q | q <;> omega
  obtain ⟨x1, x2, x3, x4⟩ := h.fld hlt
  exact ⟨x1, x2, x3, x4, hlt⟩
theorem op_register {a b : Int} (hI : Core kw K I J A w) (ha : -2147483648 ≤ a ∧ a < 2147483648) (hb : -2147483648 ≤ b ∧ b < 2147483648) : Both (f_X10_register (some 64) (zi a) (zi b)) (f_X13_register (some 224) (zi a) (zi b)) (Post kw K A w) (K, I, J, A) := by
  unfold Both f_X10_register
  refine b_ck hI.k64 (b_eq (t_for hI ha) ?_)
  by_cases hg : (0 ≤ a ∧ a < 4) ∧ 0 < bnf w.2.1
  · rw [foR_t hg]
    obtain ⟨hF, hC, hpn, h4, hlt⟩ := hI.cur hg.2
    have hr := pn_rng hpn
    have hp := phi_rng hr.2.2.1 hr.2.2.2
    refine wp_ifn (by simp) ?_
    have up : ∀ (tr : Int32) (J1 : Nat → Nat → Int64) (Q : Int32 → Hp → Prop), Core kw K I J1 A w → (∀ I1, Core kw K I1 J1 A w → I1 64 = st2 I 64 11 tr 64 → wp (if b01 (decide (((0 : Nat) : Int) ≤ b) && decide (b ≤ ((phi (bfn w.2.1 w.2.2.1.1) - 1 : Nat) : Int))) = 0 then mBd (mCk 11 (some 224) (f_X13_refusedBy (some 224) 1 (-1000000000))) fun r6 => mRt r6 else mBd (mGetA 11 24 (some 224)) fun r7 => mBd (mLdJ r7 ((1 : Int32) + (12 : Int32) * zi a + zi b)) fun r8 => mBd (mCk 11 (some 224) (f_X13_good (some 224) r8.toInt32)) fun r9 => mRt r9) Q (K, I1, J1, A)) → wp (f_X13_register (some 224) (zi a) (zi b)) Q (K, st2 I 64 11 tr, J1, A) := by
      intro tr J1 Q hI1 hq
      unfold f_X13_register
      refine r_start hI1.c (fun I1 hc h64 => b_ck hc.m0.1 (b_eq (t_isRegister hc.m0.1 hc.rb ha) ?_))
      rw [reg_t hg]
      obtain ⟨bk, fo, h3, hbk, hBS, hRBC, hfo2, hRF, hRC, hch, _, _⟩ := hc.toR.cho hc.oS hg.2
      refine wp_ifn (by decide) (b_ck hc.m0.1 (b_eq hch (b_getIv hRF.1 hRC.1.2.2.2 ?_)))
      rw [zn_pred1 (by omega)]
      exact b_eq (t_inN (lo := 0) hb (by omega) (by omega)) (hq I1 hc h64)
    have bad : ¬ (0 ≤ b ∧ b < phi (bfn w.2.1 w.2.2.1.1)) → wp (f_X13_register (some 224) (zi a) (zi b)) (fun r' h2 => r' = -1000000000 ∧ Post kw K A w h2) (K, st2 I 64 11 1, J, A) := by
      intro hbad
      refine up _ _ _ hI (fun I1 hc h64 => ?_)
      rw [show (decide (((0 : Nat) : Int) ≤ b) && decide (b ≤ ((phi (bfn w.2.1 w.2.2.1.1) - 1 : Nat) : Int))) = false from by simp; omega]
      exact wp_ifp (by decide) (r_by hc.m0 ⟨rfl, fin hc (by rw [h64]; exact st2_at) rfl (by decide)⟩)
    by_cases h1 : b < 0
    · exact wp_ifp (ilt_t (b := 0) (by omega)) (e_ref hI.k64 (bad (by omega)))
    · refine wp_ifn (ilt_f (b := 0) (by omega)) (b_ck hF.1 (b_eq (t_rowLength hI.ot hF hC hpn) ?_))
      rw [zn_zi (phi _)]
      by_cases h2 : b < phi (bfn w.2.1 w.2.2.1.1)
      · refine wp_ifp (ilt_t (by omega)) (b_getA hI.k64 (a64 hI).2.2.1 (b_getA hI.k64 (a64 hI).2.2.2.2.1 (b_ck hI.gs.1 ?_)))
        rw [zi_nn hg.1.1, zi_nn (show 0 ≤ b by omega)]
        refine wp_bd (t_copyOut hI.gs hI.rgc (by omega) hI.rows.1 (by decide) (by decide) (fun J1 hf1 hv1 => b_getA hI.k64 (a64 hI).2.2.2.2.1 (b_eq (t_atp hI.rows.1 (by omega) (by omega)) ?_)))
        rw [hv1 _ (by omega)]
        refine e_ans hI.k64 ?_
        rw [← zi_nn hg.1.1, ← zi_nn (show 0 ≤ b by omega)]
        refine up _ _ _ (hI.j0 (Or.inl rfl) hf1) (fun I1 hc h64 => ?_)
        rw [show (decide (((0 : Nat) : Int) ≤ b) && decide (b ≤ ((phi (bfn w.2.1 w.2.2.1.1) - 1 : Nat) : Int))) = true from by simp; omega]
        refine wp_ifn (by decide) (b_getA hc.m0.1 hc.ms.2.1.2.2.2.2.2.2.1 ?_)
        rw [zi_nn hg.1.1, zi_nn (show 0 ≤ b by omega), idx12]
        refine b_ldJ hc.ms.2.2.1.2.2.2.2.2.2.1 (by omega) (by omega) ?_
        rw [hc.rgr.2.2.1.2 a.toNat (by omega) b.toNat (by omega)]
        exact r_good hc.m0 ⟨rfl, fin0 hc (by rw [h64]; exact st2_at)⟩
      · exact wp_ifn (ilt_f (by omega)) (e_ref hI.k64 (bad (by omega)))
  · rw [foR_f hg]
    refine wp_ifp rfl (e_ref hI.k64 ?_)
    unfold f_X13_register
    refine r_start (hI).c (fun I1 hc h64 => ?_)
    refine b_ck hc.m0.1 (b_eq (t_isRegister hc.m0.1 hc.rb ha) ?_)
    rw [reg_f hg]
    exact wp_ifp (by decide) (r_by hc.m0 ⟨rfl, fin hc (by rw [h64]; exact st2_at) rfl (by decide)⟩)
theorem op_take {a b : Int} (hI : Core kw K I J A w) (ha : -2147483648 ≤ a ∧ a < 2147483648) (hb : -2147483648 ≤ b ∧ b < 2147483648) : Both (f_X10_take (some 64) (zi a) (zi b)) (f_X13_take (some 224) (zi a) (zi b)) (PostE kw K A) (K, I, J, A) := by
  unfold Both f_X10_take
  have hnb := hI.nb
  have hn4 := hI.ok.1.1
  refine b_getA hI.k64 hI.a8 (b_ck hI.cbs.1 (b_eq (t_letFieldAt hI.cbs hI.cb hI.ok hb) (b_ck hI.k64 (b_eq (t_for hI ha) ?_))))
  by_cases hg : (0 ≤ a ∧ a < 4) ∧ 0 < bnf w.2.1
  · rw [foR_t hg]
    refine wp_ifn (by simp) ?_
    by_cases hl : 0 ≤ b ∧ b < bnl w.2.1
    · rw [lf_t hl]
      have hl' : b.toNat < bnl w.2.1 := by omega
      obtain ⟨hff, hz, hh⟩ := hI.ok.2.2.2 _ hl'
      have hl8 := hI.ok.2.2.1
      have oS1 := hI.oS.1
      refine wp_ifp (ge_t (b := 0) (by omega)) (b_getA hI.k64 (a64 hI).2.2.1 (b_ck hI.gs.1 (b_eq (t_fieldNow hI.gs hI.rgc) ?_)))
      refine wp_ifq (zn_inj (by omega) (by omega)) ?_
      by_cases he : blf w.2.1 b.toNat = w.2.2.1.1
      · refine wp_ifp he (b_getA hI.k64 hI.a8 (b_ck hI.cbs.1 ?_))
        rw [zi_nn hl.1, zi_nn hg.1.1]
        refine b_eq (t_letRowAt hI.cbs hI.cb hI.ok hl') (b_ck hI.k64 (wp_bd ?_))
        refine t_keep hI (by omega) (hI.cbs.2.2.2.1 _ (by omega)).2 (by omega) ((hI.cb.2.2.2 _ hl').2) (fun q => by rw [hh] at q; cases q) (fun _ I1 J1 hD => wp_rq (by decide) (wp_rt ?_))
        rw [← zi_nn hl.1, ← zi_nn hg.1.1]
        unfold f_X13_take
        refine r_startR (hI.rc hD) (fun I2 hc ha2 hb2 => b_ck hc.1.1 (b_eq (t_isRegister hc.1.1 hc.2.1 ha) ?_))
        rw [reg_t hg]
        refine wp_ifn (by decide) (b_ck hc.1.1 (b_eq (t_isLet hc.1.1 hc.2.1 hc.2.2.1 hb) ?_))
        rw [inb_t hl]
        obtain ⟨bk, fo, h3, hbk, hBS, hRBC, hfo, hfo2, hRF, hRC⟩ := hc.2.1.fld hff
        rw [zi_nn hl.1, zi_nn hg.1.1]
        refine wp_ifp (by decide) (b_getA hc.1.1 h3 (b_getA hBS.1 hBS.2.1.2.2.2.2.2.2.1 (b_ldI hBS.2.2.1.2.2.2.2.2.2.1 (by omega) (by omega) (b_getA hc.1.1 hc.1.2.1.2.2.2.2.2.2.1 (b_ldJ (j := 0) hc.1.2.2.1.2.2.2.2.2.2.1 (by omega) (by omega) ?_)))))
        have e0 : J1 (224 + 7) 0 = zj w.2.2.1.1 := hc.2.2.2.2.2.1.1
        rw [(hRBC.2.2.2 _ hl').1, e0, zn_64 (by omega), he]
        refine wp_ifp rfl (b_ck hc.1.1 (wp_bd (t_lets (to := 0) hc.1 h3 hbk hBS (by omega) (by omega) (hRBC.2.2.2 _ hl').2 (fun J3 hf3 hv3 => b_ck hc.1.1 (wp_bd ?_)))))
        refine t_storesD (fr := 0) (hc.jr hf3) hnb (by omega) (by omega) hv3 (fun I4 J4 hR => wp_rq (by decide) (wp_rt ⟨rfl, done hI hD (hR.pre ha2 hb2 (jrS hf3)) (by decide) (putR_ok hI.oS hz) (actF_ok hI.ule.1 hI.oU hI.oS) (fun j hj => by omega) hI.oM (fun q => by omega)⟩))
      · refine wp_ifn he (e_den hI.k64 ?_)
        unfold f_X13_take
        refine r_start (hI).c (fun I1 hc h64 => ?_)
        refine b_ck hc.m0.1 (b_eq (t_isRegister hc.m0.1 hc.rb ha) ?_)
        rw [reg_t hg]
        refine wp_ifn (by decide) (b_ck hc.m0.1 (b_eq (t_isLet hc.m0.1 hc.rb hc.ok hb) ?_))
        rw [inb_t hl]
        obtain ⟨bk, fo, h3, hbk, hBS, hRBC, hfo, hfo2, hRF, hRC⟩ := hc.rfld hff
        rw [zi_nn hl.1]
        refine wp_ifp (by decide) (b_getA hc.m0.1 h3 (b_getA hBS.1 hBS.2.1.2.2.2.2.2.2.1 (b_ldI hBS.2.2.1.2.2.2.2.2.2.1 (by omega) (by omega) (b_getA hc.m0.1 hc.ms.2.1.2.2.2.2.2.2.1 (b_ldJ (j := 0) hc.ms.2.2.1.2.2.2.2.2.2.1 (by omega) (by omega) ?_)))))
        have e0 : J (224 + 7) 0 = zj w.2.2.1.1 := hc.rgr.2.2.1.1
        rw [(hRBC.2.2.2 _ hl').1, e0, zn_64 (by omega)]
        refine wp_ifn ?_ (r_den hc.m0 ⟨rfl, (fin hc (by rw [h64]; exact st2_at) rfl (by decide)).e⟩)
        intro q
        have := congrArg Int64.toInt q
        rw [zj_toInt (by omega) (by omega), zj_toInt (by omega) (by omega)] at this
        omega
    · rw [lf_f hl]
      refine wp_ifn (ige_f (b := 0) (by omega)) (e_den hI.k64 ?_)
      unfold f_X13_take
      refine r_start (hI).c (fun I1 hc h64 => ?_)
      refine b_ck hc.m0.1 (b_eq (t_isRegister hc.m0.1 hc.rb ha) ?_)
      rw [reg_t hg]
      refine wp_ifn (by decide) (b_ck hc.m0.1 (b_eq (t_isLet hc.m0.1 hc.rb hc.ok hb) ?_))
      rw [inb_f hl]
      exact wp_ifn (by decide) (r_den hc.m0 ⟨rfl, (fin hc (by rw [h64]; exact st2_at) rfl (by decide)).e⟩)
  · rw [foR_f hg]
    refine wp_ifp rfl (e_den hI.k64 ?_)
    unfold f_X13_take
    refine r_start (hI).c (fun I1 hc h64 => ?_)
    refine b_ck hc.m0.1 (b_eq (t_isRegister hc.m0.1 hc.rb ha) ?_)
    rw [reg_f hg]
    exact wp_ifp (by decide) (r_den hc.m0 ⟨rfl, (fin hc (by rw [h64]; exact st2_at) rfl (by decide)).e⟩)
theorem op_jacobi {a b c : Int} (hI : Core kw K I J A w) (ha : -2147483648 ≤ a ∧ a < 2147483648) (hb : -2147483648 ≤ b ∧ b < 2147483648) (hc : -2147483648 ≤ c ∧ c < 2147483648) : Both (f_X10_jacobi (some 64) (zi a) (zi b) (zi c)) (f_X13_jacobi (some 224) (zi a) (zi b) (zi c)) (PostE kw K A) (K, I, J, A) := by
  unfold Both f_X10_jacobi
  have hnb := hI.nb
  have hn4 := hI.ok.1.1
  have hcc := hc
  have oS1 := hI.oS.1
  refine b_ck hI.k64 (b_eq (t_for hI ha) ?_)
  by_cases hg : (0 ≤ a ∧ a < 4) ∧ 0 < bnf w.2.1
  · obtain ⟨hF, hC, hpn, h4, hlt⟩ := hI.cur hg.2
    have hr := pn_rng hpn
    have hp := phi_rng hr.2.2.1 hr.2.2.2
    have eF : foR w.1 w a = atF w.1 w.2.1 (w.2.2.1.1 : Int) := by rw [foR_t hg, atF_t (by omega), Int.toNat_natCast]
    rw [eF]
    refine b_eq (t_hasSum hI hb hc) ?_
    have up : ∀ (tr : Int32) (I0 : Nat → Nat → Int32) (J1 : Nat → Nat → Int64) (Q : Int32 → Hp → Prop), RCore K I0 J1 A w → (∀ I1, RCore K I1 J1 A w → (∀ b, b ≠ 224 → I1 b = I0 b) → (∀ j, 3 ≤ j → I1 224 j = I0 224 j) → wp (if ¬ b01 (areO w.2.1 (w.2.2.1.1 : Int) b c) = 0 then mBd (mCk 11 (some 224) (f_X13_chosen (some 224))) fun r6 => mBd (mCk 11 (some 224) (f_X13_jacobiRow (some 224) r6 (zi b) (zi c) 0)) fun _ => mBd (mCk 11 (some 224) (f_X13_stores (some 224) 0 (zi a))) fun r7 => mRq (r7 = 0 ∨ r7 = 1) (mRt r7) else mBd (mCk 11 (some 224) (f_X13_denied (some 224) 1)) fun r8 => mRq (r8 = 0 ∨ r8 = 1) (mRt r8)) Q (K, I1, J1, A)) → wp (f_X13_jacobi (some 224) (zi a) (zi b) (zi c)) Q (K, I0, J1, A) := by
      intro tr I0 J1 Q hR0 hq
      unfold f_X13_jacobi
      refine r_startR hR0 (fun I1 hc ha1 hb1 => b_ck hc.1.1 (b_eq (t_isRegister hc.1.1 hc.2.1 ha) ?_))
      rw [reg_t hg]
      refine wp_ifn (by decide) (b_getA hc.1.1 hc.1.2.1.2.2.2.2.2.2.1 (b_ldJ (j := 0) hc.1.2.2.1.2.2.2.2.2.2.1 (by omega) (by omega) ?_))
      have e0 : J1 (224 + 7) 0 = zj w.2.2.1.1 := hc.2.2.2.2.2.1.1
      rw [e0, zj_32]
      exact b_ck hc.1.1 (b_eq (t_areOrders hc.1.1 hc.2.1 hc.2.2.1 (by omega) hb hcc) (hq I1 hc ha1 hb1))
    cases h : areO w.2.1 (w.2.2.1.1 : Int) b c with
    | false =>
      rw [h] at up
      refine wp_ifn (by decide) (e_den hI.k64 (up 1 _ _ _ hI.c.toR (fun I1 hc ha1 hb1 => wp_ifn (by decide) (r_den ⟨hc.1.1, by decide⟩ ⟨rfl, ?_⟩))))
      refine (fin (tr := 1) (I := I1) (J := J) (hI.c.mv (fun b _ _ h => ha1 b h) (fun j _ => by rw [ha1 64 (by decide)]) hb1 (fun _ _ => rfl)) ?_ rfl (by decide)).e
      rw [ha1 64 (by decide)]; exact st2_at
    | true =>
      rw [h] at up
      obtain ⟨hf, h5, h6⟩ := areO_t h
      rw [Int.toNat_natCast] at h5 h6
      rw [← eF, foR_t hg]
      refine wp_ifp (by decide) (b_getA hI.k64 (a64 hI).2.1 (b_getA hI.k64 (a64 hI).2.2.2.2.1 (b_ck hF.1 ?_)))
      rw [zi_nn h5.1, zi_nn h6.1, zi_nn hg.1.1]
      refine wp_bd (t_jacobiSum hI.ot hF hC hpn hI.rg (by omega) (by omega) hI.rows.1 (by decide) (by decide) (fun J1 hf1 hv1 => b_getA hI.k64 (a64 hI).2.2.2.2.1 (b_ck hI.k64 (wp_bd ?_))))
      have hI1 := hI.j1 (Or.inl rfl) hf1
      refine t_keep hI1 (by omega) hI.rows.1 (by decide) hv1 (fun q => by rw [jac_hug hpn] at q; cases q) (fun _ I2 J2 hD => wp_rq (by decide) (wp_rt ?_))
      rw [← zi_nn h5.1, ← zi_nn h6.1, ← zi_nn hg.1.1]
      refine up 0 _ _ _ (hI1.rc hD) (fun I3 hc ha3 hb3 => wp_ifp (by decide) ?_)
      obtain ⟨bk, fo, h3, hbk, hBS, hRBC, hfo2, hRF, hRC, hch, _, _⟩ := hc.cho hI.oS hg.2
      refine b_ck hc.1.1 (b_eq hch (b_ck hc.1.1 ?_))
      rw [zi_nn h5.1, zi_nn h6.1, zi_nn hg.1.1]
      refine wp_bd (t_jacobiRow (to := 0) hc.1 hRF hRC (by omega) (by omega) hpn (by omega) (by omega) (by omega) (fun J4 hf4 hv4 => b_ck hc.1.1 (wp_bd ?_)))
      refine t_storesD (fr := 0) (hc.jr hf4) hnb (by omega) (by omega) hv4 (fun I5 J5 hR => wp_rq (by decide) (wp_rt ⟨rfl, done hI1 hD (hR.pre ha3 hb3 (jrS hf4)) (by decide) (putR_ok hI.oS (fun i hi => jac_hi (by omega))) (actF_ok hI.ule.1 hI.oU hI.oS) (fun j hj => by omega) hI.oM (fun q => by omega)⟩))
  · rw [foR_f hg]
    unfold f_X10_hasSum
    refine b_ite (wp_ifp rfl (b_rt (wp_ifn (by decide) (e_den hI.k64 ?_))))
    unfold f_X13_jacobi
    refine r_start (hI).c (fun I1 hc h64 => ?_)
    refine b_ck hc.m0.1 (b_eq (t_isRegister hc.m0.1 hc.rb ha) ?_)
    rw [reg_f hg]
    exact wp_ifp (by decide) (r_den hc.m0 ⟨rfl, (fin hc (by rw [h64]; exact st2_at) rfl (by decide)).e⟩)
end
