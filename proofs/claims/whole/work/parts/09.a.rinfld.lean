/-! ===== in which field: the reference ===== -/
section
variable {β : Type} {kw : Nat → Int64} {K : List (Nat × Nat)} {I I' : Nat → Nat → Int32} {J J' : Nat → Nat → Int64} {A : Nat → Nat → Option Nat} {w : WD}
variable {b : Nat → Nat} {n T t rb : Nat} {B : BKD} {N : NMD}
theorem o_j52 {x : Int32} (hM : MS K A 224) (h : I 224 11 = 5) : f_X13_readField_j52 (some 224) x (K, I, J, A) = some (-1, (K, I, J, A)) := by
  apply wp_get
  unfold f_X13_readField_j52
  exact b_getIv hM.1 h (wp_ifn (by decide) (b_ck hM.1 (b_eq (o_goesOn hM h) (wp_rt ⟨rfl, rfl⟩))))
theorem o_j47 {x : Int32} (hM : MS K A 224) (h : I 224 11 = 5) : f_X13_readField_j47 (some 224) x (K, I, J, A) = some (-1, (K, I, J, A)) := by
  apply wp_get
  unfold f_X13_readField_j47
  refine b_ck hM.1 (b_eq (o_wrong hM h) ?_)
  unfold wp
  exact ⟨_, _, o_j52 hM h, rfl, rfl⟩
theorem o_j18 (hM : MS K A 224) (h : I 224 11 = 5) (h4 : A 224 4 = some rb) (hB : BS K A rb) (hN : NmR I J rb N) (hO : okN N) : f_X13_readField_j18 (some 224) (K, I, J, A) = some (-1, (K, I, J, A)) := by
  apply wp_get
  have a13 := hB.2.1.2.2.2.2.2.2.2.2.2.1
  have k10 := hB.2.2.1.2.2.2.2.2.2.2.2.2.1
  have hN1 := hO.1
  unfold f_X13_readField_j18
  refine b_getA hM.1 h4 (b_getJ hM.1 (b_ck hB.1 (b_eq (t_findR hB hN hO) ?_)))
  cases hr : rk N (J 224 17) with
  | none =>
    refine wp_ifp rfl ?_
    unfold wp
    exact ⟨_, _, o_j47 hM h, rfl, rfl⟩
  | some k =>
    have hk := rk_lt hr
    refine wp_ifn (fun q => ?_) (b_getA hM.1 h4 (b_getA hB.1 a13 (b_ldI k10 (by omega) (by omega) ?_)))
    · have q' : zn k = -1 := q
      rw [z_m1, zn_zi, zi_inj (by omega) (by omega) (by omega) (by omega)] at q'
      omega
    · by_cases hc : I (rb + 10) k = 0
      · refine wp_ifp hc ?_
        unfold wp
        exact ⟨_, _, o_j52 hM h, rfl, rfl⟩
      · refine wp_ifn hc ?_
        unfold wp
        exact ⟨_, _, o_j47 hM h, rfl, rfl⟩
theorem t_inFieldR {Q : Int32 → Hp → Prop} (hM : MS K A 224) (hS : SK K) (hBt : RB I b n) (hR : RT I J kwC b n t) (h5 : ¬ I 224 11 = 5) (h4 : A 224 4 = some rb) (hb : 236 ≤ rb) (hB : BS K A rb) (hN : NmR I J rb N) (hO : okN N)
    (qe : ∀ k s I' J', sInF b n N t = Sum.inl (k, s) → ROv I J I' J' k (ps b n s) → Q (-1) (K, I', J', A))
    (qs : ∀ f I' J', sInF b n N t = Sum.inr (f, t + 2) → RW I J I' J' → I' 224 15 = I 224 15 → RT I' J' kwC b n (t + 2) → ¬ I' 224 11 = 5 → Q (zn f) (K, I', J', A)) : wp (f_X13_readField (some 224)) Q (K, I, J, A) := by
  have a13 := hB.2.1.2.2.2.2.2.2.2.2.2.1
  have a14 := hB.2.1.2.2.2.2.2.2.2.2.2.2
  have k10 := hB.2.2.1.2.2.2.2.2.2.2.2.2.1
  have k11 := hB.2.2.1.2.2.2.2.2.2.2.2.2.2
  have hN1 := hO.1
  unfold f_X13_readField
  unfold sInF at qe qs
  refine b_ck hM.1 (wp_bd (t_needs (i := 4) hM hS hBt hR h5 (by decide) (fun g1 I1 J1 f1 r1 s1 => ?_) (fun g1 => ?_)))
  rotate_left
  · rw [if_pos g1] at qe
    refine b_ck hM.1 (b_eq (o_isName hM over_11) (wp_ifn (by decide) (b_ck hM.1 (b_eq (o_wrong hM over_11) ?_))))
    unfold wp
    exact ⟨_, _, o_j18 hM over_11 h4 hB (hN.rw' hb RW.over) hO, qe 1 t _ _ rfl (ROv.mk' RW.rfl')⟩
  rw [if_neg (by rw [g1]; decide)] at qe qs
  have W1 : RW I J I1 J1 := f1.rw'
  have N1 := hN.rw' hb W1
  refine b_ck hM.1 (b_eq (t_isName hM hS r1) ?_)
  by_cases g2 : kd' kwC b n (t + 1) = 5
  · rw [if_neg (fun q => q g2)] at qe qs
    rw [g2]
    have hw : J1 224 17 = vl kwC b n (t + 1) := by
      obtain ⟨_, hh, _⟩ := r1
      rcases hh with ⟨h1, _⟩ | ⟨h1, _⟩ | ⟨h1, _⟩ | ⟨h1, _⟩ | ⟨h1, _⟩ | ⟨h1, _, h3, _⟩
      · omega
      · omega
      · omega
      · omega
      · omega
      · exact h3
    refine wp_ifp (by decide) ?_
    unfold f_X13_readField_j18
    refine b_getA hM.1 h4 (b_getJv hM.1 hw (b_ck hB.1 (b_eq (t_findR hB N1 hO) ?_)))
    have bad : ∀ x : Int32, fnN N (vl kwC b n (t + 1)) 0 = none → wp (f_X13_readField_j47 (some 224) x) Q (K, I1, J1, A) := by
      intro x hf
      rw [hf] at qe
      unfold f_X13_readField_j47
      refine b_ck hM.1 (b_eq (t_wrong (k := 2) hM r1 s1) ?_)
      unfold wp
      exact ⟨_, _, o_j52 hM over_11, qe 2 (t + 1) _ _ rfl (ROv.mk' W1)⟩
    cases hr : rk N (vl kwC b n (t + 1)) with
    | none => exact wp_ifp rfl (bad _ (by unfold fnN; rw [hr]))
    | some k =>
      have hk := rk_lt hr
      obtain ⟨y1, y2, y3⟩ := N1.2 k hk
      have hok := hO.2 k hk
      refine wp_ifn (fun q => ?_) (b_getA hM.1 h4 (b_getA hB.1 a13 (b_ldI k10 (by omega) (by omega) ?_)))
      · have q' : zn k = -1 := q
        rw [z_m1, zn_zi, zi_inj (by omega) (by omega) (by omega) (by omega)] at q'
        omega
      · rw [y2]
        refine wp_ifq (zn0 (by omega)) ?_
        by_cases hs : (N.2 k).2.1 = 0
        · have hf : fnN N (vl kwC b n (t + 1)) 0 = some (N.2 k).2.2 := by unfold fnN; rw [hr]; exact if_pos hs
          rw [hf] at qs
          refine wp_ifp hs ?_
          unfold f_X13_readField_j52
          refine b_getI hM.1 (wp_ifp s1 (b_getA hM.1 h4 (b_getA hB.1 a14 (b_ldI k11 (by omega) (by omega) ?_))))
          rw [y3]
          refine b_ck hM.1 (wp_bd (t_next hM (hBt.rw' W1) r1 s1 (by omega) (fun I2 J2 f2 r2 s2 => wp_rt (qs _ I2 J2 rfl (W1.trans f2.rw') ?_ r2 s2))))
          rw [f2.2.1 15 (by omega), f1.2.1 15 (by omega)]
        · refine wp_ifn hs (bad _ ?_)
          unfold fnN
          rw [hr]
          exact if_neg hs
  · rw [if_pos g2] at qe
    rw [beq_eq_false_iff_ne.mpr g2]
    refine wp_ifn (by decide) (b_ck hM.1 (b_eq (t_wrong (k := 1) hM r1 s1) ?_))
    unfold wp
    exact ⟨_, _, o_j18 hM over_11 h4 hB (N1.rw' hb RW.over) hO, qe 1 (t + 1) _ _ rfl (ROv.mk' W1)⟩
end
