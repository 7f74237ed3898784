/-! ===== registers: size ===== -/
section
variable {β : Type} {kw : Nat → Int64} {K : List (Nat × Nat)} {I I' : Nat → Nat → Int32} {J J' : Nat → Nat → Int64} {A : Nat → Nat → Option Nat} {w : WD}
/-! size -/
def szS (n : Nat) (x : Nat → Int64) : Nat → Option (Nat → Int64)
  | 0 => some (wu 1)
  | t + 1 => match szS n x t with
    | none => none
    | some z => if unit n t = true then (if hug 10 (tun n t x) = true ∨ hug 10 (mul n z (tun n t x)) = true then none else some (mul n z (tun n t x))) else some z
theorem unit_0 (n : Nat) : unit n ((0 : Nat) : Int) = false := by
  cases h : unit n ((0 : Nat) : Int) with
  | false => rfl
  | true => exact absurd (unit_t h).1 (by decide)
theorem szS_s {n : Nat} {x z : Nat → Int64} {t : Nat} (h : szS n x t = some z) : szS n x (t + 1) = if unit n t = true then (if hug 10 (tun n t x) = true ∨ hug 10 (mul n z (tun n t x)) = true then none else some (mul n z (tun n t x))) else some z := by
  show (match szS n x t with | none => none | some z => _) = _
  rw [h]
theorem szS_1 {n : Nat} {x : Nat → Int64} : szS n x 1 = some (wu 1) := by
  have h := szS_s (n := n) (x := x) (z := wu 1) (t := 0) rfl
  rw [unit_0, if_neg (by decide)] at h
  exact h
theorem szS_n {n : Nat} {x : Nat → Int64} {t : Nat} (h : szS n x t = none) : ∀ d, szS n x (t + d) = none := by
  intro d
  induction d with
  | zero => exact h
  | succ d ih =>
    show (match szS n x (t + d) with | none => none | some z => _) = _
    rw [ih]
theorem op_size {a : Int} (hI : Core kw K I J A w) (ha : -2147483648 ≤ a ∧ a < 2147483648) : Both (f_X10_size (some 64) (zi a)) (f_X13_size (some 224) (zi a)) (Post kw K A w) (K, I, J, A) := by
  unfold Both f_X10_size
  have hnb := hI.nb
  obtain ⟨k1, k2, k3, k4⟩ := hI.rows
  obtain ⟨hA0, hA1, hA2, hA3, hA4, hA5, hA6, hA7, hA8⟩ := a64 hI
  refine b_ck hI.k64 (b_eq (t_for hI ha) ?_)
  by_cases hg : (0 ≤ a ∧ a < 4) ∧ 0 < bnf w.2.1
  · rw [foR_t hg]
    obtain ⟨hF, hC, hpn, h4, hlt⟩ := hI.cur hg.2
    have hr := pn_rng hpn
    have hp := phi_rng hr.2.2.1 hr.2.2.2
    refine wp_ifn (by simp) (b_getA hI.k64 hA2 (b_getA hI.k64 hA4 (b_ck hI.gs.1 ?_)))
    rw [zi_nn hg.1.1]
    generalize hx : w.2.2.1.2 a.toNat = x
    generalize hn : bfn w.2.1 w.2.2.1.1 = n at *
    generalize hpp : bfp w.2.1 w.2.2.1.1 = p at *
    refine wp_bd (t_copyOut hI.gs hI.rgc (by omega) k1 (by decide) (by decide) (fun J1 hf1 hv1 => b_ck hI.k64 (wp_bd ?_)))
    rw [hx] at hv1
    have hI1 := hI.j0 (Or.inl rfl) hf1
    -- the reference, by what comes out
    have run : ∀ (J0 : Nat → Nat → Int64) (tr : Int32), Core kw K I J0 A w → tr = (if (szS n x n).isSome then 0 else 7) → wp (f_X13_size (some 224) (zn a.toNat)) (fun r' h2 => r' = (match szS n x n with | some z => z 0 | none => -9223372036854775808) ∧ Post kw K A w h2) (K, st2 I 64 11 tr, J0, A) := by
      intro J0 tr hI0 htr
      rw [← zi_nn hg.1.1]
      unfold f_X13_size
      refine r_start (hI0).c (fun I1 hc h64 => ?_)
      refine b_ck hc.m0.1 (b_eq (t_isRegister hc.m0.1 hc.rb ha) ?_)
      rw [reg_t hg, zi_nn hg.1.1]
      refine wp_ifp (by decide) (b_ck hc.m0.1 (wp_bd (t_loads (to := 0) hc.ms hc.rgr (by omega) (by omega) (fun J2 hf2 hv2 => b_ck hc.m0.1 (wp_bd (t_wholeRow (to := 2) hc.ms (by omega) (fun J3 hf3 hv3 => ?_)))))))
      rw [hx] at hv2
      have hc3 := (hc.jr hf2).jr hf3
      unfold f_X13_size_l37
      refine while1 (fun mm y I' J' => ∃ t z, y = zn t ∧ 1 ≤ t ∧ t ≤ n ∧ mm = n - t ∧ I' = I1 ∧ Core kw K I1 J' A w ∧ (∀ i, i < 12 → rv J' 224 0 i = x i) ∧ szS n x t = some z ∧ ∀ i, i < 12 → rv J' 224 2 i = z i) ?_ fuel (n - 1) _ _ _ (by unfold fuel; omega) ⟨1, wu 1, rfl, by omega, by omega, rfl, rfl, hc3, fun i hi => by rw [hf3.row (by omega) i hi]; exact hv2 i hi, szS_1, hv3⟩
      rintro mm y I' J' R ⟨t, z, rfl, h1, h2, rfl, rfl, hcJ, hr0, hz, hr2⟩ hR
      obtain ⟨bk, fo, h3, hbk, hBS, hRBC, hfo2, hRF, hRC, hch, _, _⟩ := hcJ.toR.cho hI.oS hg.2
      rw [hn, hpp] at hRC
      unfold f_X13_size_b37
      refine b_ck hc.m0.1 (b_eq hch (b_getIv hRF.1 hRC.1.2.1 ?_))
      by_cases he : t = n
      · subst he
        have htr' : tr = 0 := by rw [htr, hz]; rfl
        refine wp_ifp (ge_t (by omega)) (b_getA hc.m0.1 hc.ms.2.1.1 (b_ldJ (j := 24) hc.ms.2.2.1.1 (by omega) (by omega) ?_))
        have e : J' 225 24 = z 0 := hr2 0 (by omega)
        rw [e]
        refine r_goodL hc.m0 ⟨by rw [hz], fin0 hcJ ?_⟩
        rw [h64, st2_at, htr']; rfl
      · refine wp_ifn (ge_f (by omega)) (b_ck hc.m0.1 (b_eq hch (b_ck hRF.1 ?_)))
        rw [zn_zi t]
        refine b_eq (t_isUnit (v := (t : Int)) hRF hRC hpn (by omega)) ?_
        rw [← zn_zi t]
        have hstep := szS_s hz
        have stop : szS n x (t + 1) = none → ∀ J4, Core kw K I' J4 A w → Post kw K A w (K, st2 (st2 I' 224 1 7) 224 2 (-1), J4, A) := by
          intro hnone J4 hc4
          have hfin := szS_n hnone (n - (t + 1))
          rw [show t + 1 + (n - (t + 1)) = n by omega] at hfin
          have htr' : tr = 7 := by rw [htr, hfin]; rfl
          refine fin (tr := 7) hc4 ?_ rfl (by decide)
          rw [h64, st2_at, htr']; rfl
        have val : szS n x (t + 1) = none → (match szS n x n with | some z => z 0 | none => -9223372036854775808) = (-9223372036854775808 : Int64) := by
          intro hnone
          have hfin := szS_n hnone (n - (t + 1))
          rw [show t + 1 + (n - (t + 1)) = n by omega] at hfin
          rw [hfin]
        cases hu : unit n (t : Int) with
        | false =>
          rw [hu, if_neg (by decide)] at hstep
          refine wp_ifn (by decide) ?_
          rw [zn_succ]
          exact hR (n - (t + 1)) _ _ _ (by omega) ⟨t + 1, z, rfl, by omega, by omega, rfl, rfl, hcJ, hr0, hstep, hr2⟩
        | true =>
          rw [hu, if_pos rfl] at hstep
          refine wp_ifp (by decide) (b_ck hc.m0.1 (b_eq hch (b_ck hc.m0.1 (wp_bd (t_turnedR (a := 0) (to := 1) hc.ms hRF hRC (by omega) (by omega) (by omega) (by omega) (by omega) (by omega) (fun J4 hf4 hv4 => b_ck hc.m0.1 ?_))))))
          have hc4 := hcJ.jr hf4
          have row1 : ∀ i, i < 12 → rv J4 224 1 i = tun n t x i := fun i hi => by
            rw [hv4 i hi, tun_congr (x' := x)]
            intro j hj; exact hr0 j (by omega)
          have tz : ∀ i, 10 ≤ i → tun n t x i = 0 := fun i hi => res_hi (by omega)
          refine b_eq (t_isHugeR (a := 1) hc.ms (by omega)) ?_
          rw [hug_congr row1, hug_12 ⟨tz 10 (by omega), tz 11 (by omega)⟩]
          cases hh1 : hug 10 (tun n t x) with
          | true =>
            rw [hh1, if_pos (Or.inl rfl)] at hstep
            refine wp_ifp (by decide) ?_
            unfold f_X13_size_j94
            refine wp_ifp (by decide) (b_ck hc.m0.1 (b_eq (t_refused hc.m0) (wp_rt ⟨(val hstep).symm, stop hstep J4 hc4⟩)))
          | false =>
            rw [hh1] at hstep
            refine wp_ifn (by decide) ?_
            obtain ⟨bk2, fo2, _, _, _, _, hfo22, hRF2, hRC2, hch2, _, _⟩ := hc4.toR.cho hI.oS hg.2
            rw [hn, hpp] at hRC2
            refine b_ck hc.m0.1 (b_eq hch2 (b_ck hc.m0.1 (wp_bd (t_multiplyR (a := 2) (b := 1) (to := 2) hc.ms hRF2 hRC2 (by omega) (by omega) (by omega) (by omega) (by omega) (by omega) (fun J5 hf5 hv5 => ?_)))))
            have hc5 := hc4.jr hf5
            have row2 : ∀ i, i < 12 → rv J5 224 2 i = mul n z (tun n t x) i := fun i hi => by
              rw [hv5 i hi, mul_congr (x' := z) (y' := tun n t x)]
              · intro j hj; rw [hf4.row (by omega) j (by omega)]; exact hr2 j (by omega)
              · intro j hj; exact row1 j (by omega)
            have mz : ∀ i, 10 ≤ i → mul n z (tun n t x) i = 0 := fun i hi => res_hi (by omega)
            unfold f_X13_size_j94
            refine wp_ifn (by decide) (b_ck hc.m0.1 (b_eq (t_isHugeR (a := 2) hc.ms (by omega)) ?_))
            rw [hug_congr row2, hug_12 ⟨mz 10 (by omega), mz 11 (by omega)⟩]
            cases hh2 : hug 10 (mul n z (tun n t x)) with
            | true =>
              rw [hh2, if_pos (Or.inr rfl)] at hstep
              refine wp_ifp (by decide) (b_ck hc.m0.1 (b_eq (t_refused hc.m0) (wp_rt ⟨(val hstep).symm, stop hstep J5 hc5⟩)))
            | false =>
              rw [hh2, if_neg (by simp)] at hstep
              refine wp_ifn (by decide) ?_
              rw [zn_succ]
              refine hR (n - (t + 1)) _ _ _ (by omega) ⟨t + 1, _, rfl, by omega, by omega, rfl, rfl, hc5, fun i hi => ?_, hstep, row2⟩
              rw [hf5.row (by omega) i hi, hf4.row (by omega) i hi]; exact hr0 i hi
    unfold f_X10_multiplyTurns
    refine b_ck hF.1 (b_eq (t_order hF hC) (b_getA hI.k64 hA6 (wp_bd (t_setWhole k3 (by decide) (by omega) (fun J2 hf2 hv2 => ?_)))))
    have hI2 := hI1.j0 (Or.inr (Or.inr (Or.inl rfl))) hf2
    unfold f_X10_multiplyTurns_l15
    have out : ∀ J4, Core kw K I J4 A w → szS n x n = none → wp (mRt (0 : Int32)) (fun r h1 => wp (if ¬ r = 0 then mBd (mPutI 8 11 (some 64) 0) fun _ => mBd (mGetA 8 6 (some 64)) fun r5 => mBd (f_X6_at r5 0) fun r6 => mRt r6 else mBd (mPutI 8 11 (some 64) 7) fun _ => mRt (-9223372036854775808)) (fun r h1 => wp (f_X13_size (some 224) (zn a.toNat)) (fun r' h2 => r' = r ∧ Post kw K A w h2) h1) h1) (K, I, J4, A) := by
      intro J4 hI4 hnone
      refine wp_rt (wp_ifn (by decide) (b_putI hI.k64 (by decide) (wp_rt ?_)))
      have := run J4 7 hI4 (by rw [hnone]; rfl)
      rw [hnone] at this
      exact this
    refine while1 (fun mm y I' J' => ∃ t z, y = zn t ∧ 1 ≤ t ∧ t ≤ n ∧ mm = n - t ∧ I' = I ∧ Core kw K I J' A w ∧ (∀ i, i < 10 → J' 168 i = x i) ∧ szS n x t = some z ∧ ∀ i, i < 10 → J' 170 i = z i) ?_ fuel (n - 1) _ _ _ (by unfold fuel; omega) ⟨1, wu 1, rfl, by omega, by omega, rfl, rfl, hI2, fun i hi => by rw [hf2 168 (by decide)]; exact hv1 i hi, szS_1, hv2⟩
    rintro mm y I' J' R ⟨t, z, rfl, h1, h2, rfl, rfl, hcJ, hr0, hz, hr2⟩ hR
    unfold f_X10_multiplyTurns_b15
    have hstep := szS_s hz
    by_cases he : t = n
    · subst he
      refine wp_ifp (ge_t (by omega)) (wp_rt (wp_ifp (by decide) (b_putI hI.k64 (by decide) (b_getA hI.k64 hA6 (b_eq (t_atp (j := 0) k3 (by omega) (by omega)) (wp_rt ?_))))))
      have := run J' 0 hcJ (by rw [hz]; rfl)
      rw [hz] at this
      rw [hr2 0 (by omega)]
      exact this
    · have hall : szS n x (t + 1) = none → szS n x n = none := by
        intro hnone
        have hfin := szS_n hnone (n - (t + 1))
        rw [show t + 1 + (n - (t + 1)) = n by omega] at hfin
        exact hfin
      have hFC := (hcJ.cur hg.2).2.1
      rw [hn, hpp] at hFC
      refine wp_ifn (ge_f (by omega)) (b_ck hF.1 ?_)
      rw [zn_zi t]
      refine b_eq (t_hasTurn (v := (t : Int)) hF hFC hpn (by omega)) ?_
      rw [← zn_zi t]
      cases hu : unit n (t : Int) with
      | false =>
        rw [hu, if_neg (by decide)] at hstep
        refine wp_ifp (by decide) ?_
        rw [zn_succ]
        exact hR (n - (t + 1)) _ _ _ (by omega) ⟨t + 1, z, rfl, by omega, by omega, rfl, rfl, hcJ, hr0, hstep, hr2⟩
      | true =>
        rw [hu, if_pos rfl] at hstep
        refine wp_ifn (by decide) (b_getA hI.k64 hA1 (b_getA hI.k64 hA4 (b_getA hI.k64 hA5 (b_ck hI.rg.1 (wp_bd (t_turnRow hI.ot hI.rg (by omega) (by omega) k1 k2 (by decide) (by decide) (by decide) (fun J4 hf4 hv4 => b_getA hI.k64 hA1 (b_getA hI.k64 hA6 (b_getA hI.k64 hA5 (b_getA hI.k64 hA6 (b_ck hI.rg.1 (wp_bd (t_multiply hI.ot hI.rg (by omega) k3 k2 k3 (by decide) (by decide) (by decide) (by decide) (fun J5 hf5 hv5 => b_getA hI.k64 hA5 (b_eq (t_isHuge k2 (by omega)) ?_)))))))))))))))
        have hc5 := (hcJ.j1 (Or.inr (Or.inl rfl)) hf4).j1 (Or.inr (Or.inr (Or.inl rfl))) hf5
        have row1 : ∀ i, i < 10 → J5 169 i = tun n t x i := fun i hi => by
          rw [hf5 169 (by decide) (by decide), hv4 i hi, tun_congr (x' := x)]
          intro j hj; exact hr0 j (by omega)
        have row2 : ∀ i, i < 10 → J5 170 i = mul n z (tun n t x) i := fun i hi => by
          rw [hv5 i hi, mul_congr (x' := z) (y' := tun n t x)]
          · intro j hj; rw [hf4 170 (by decide) (by decide)]; exact hr2 j (by omega)
          · intro j hj
            have := row1 j (by omega)
            rw [hf5 169 (by decide) (by decide)] at this
            exact this
        rw [hug_congr row1]
        cases hh1 : hug 10 (tun n t x) with
        | true =>
          rw [hh1, if_pos (Or.inl rfl)] at hstep
          exact wp_ifp (by decide) (out J5 hc5 (hall hstep))
        | false =>
          rw [hh1] at hstep
          refine wp_ifn (by decide) (b_getA hI.k64 hA6 (b_eq (t_isHuge k3 (by omega)) ?_))
          rw [hug_congr row2]
          cases hh2 : hug 10 (mul n z (tun n t x)) with
          | true =>
            rw [hh2, if_pos (Or.inr rfl)] at hstep
            exact wp_ifn (by decide) (out J5 hc5 (hall hstep))
          | false =>
            rw [hh2, if_neg (by simp)] at hstep
            refine wp_ifp (by decide) ?_
            rw [zn_succ]
            refine hR (n - (t + 1)) _ _ _ (by omega) ⟨t + 1, _, rfl, by omega, by omega, rfl, rfl, hc5, fun i hi => ?_, hstep, row2⟩
            rw [hf5 168 (by decide) (by decide), hf4 168 (by decide) (by decide)]; exact hr0 i hi
  · rw [foR_f hg]
    refine wp_ifp rfl (b_putI hI.k64 (by decide) (wp_rt ?_))
    unfold f_X13_size
    refine r_start (hI).c (fun I1 hc h64 => ?_)
    refine b_ck hc.m0.1 (b_eq (t_isRegister hc.m0.1 hc.rb ha) ?_)
    rw [reg_f hg]
    exact wp_ifn (by decide) (b_ck hc.m0.1 (b_eq (t_refused hc.m0) (wp_rt ⟨rfl, fin hc (by rw [h64]; exact st2_at) rfl (by decide)⟩)))
end
