/-! ===== an equation's line: the reference reads it ===== -/
section
variable {β : Type} {kw : Nat → Int64} {K : List (Nat × Nat)} {I I' : Nat → Nat → Int32} {J J' : Nat → Nat → Int64} {A : Nat → Nat → Option Nat} {w : WD}
variable {b : Nat → Nat} {n T t rb m e : Nat} {B : BKD} {N : NMD}
theorem t_j205 {Q : Unit → Hp → Prop} {v : Int64} {f m' r : Nat} {c u : Nat → Nat} (hM : MS K A 224) (h5 : ¬ I 224 11 = 5) (h4 : A 224 4 = some rb) (hb : 236 ≤ rb) (hB : BS K A rb) (hC : RBC K I J A rb B) (hN : NmR I J rb N) (hk : okB B) (hne : bne B < 4) (hN1 : N.1 < 16) (hU : REU I rb (bne B) m' c u) (hm : m' ≤ 3) (hf : f < 4)
    (q : ∀ I' J', (∀ x, (x < rb ∨ rb + 12 ≤ x) → I' x = I x ∧ J' x = J x) → RBC K I' J' A rb (addEq B f m' r c u) → NmR I' J' rb (addN N v 1 (bne B)) → Q () (K, I', J', A)) : wp (f_X13_readEquation_j205 (some 224) (zn (bne B)) v (zn f) (zn m') (zn r)) Q (K, I, J, A) := by
  have hB' := hB
  obtain ⟨b0, ⟨a4, a5, a6, a7, a8, a9, a10, a11, a12, a13, a14⟩, ⟨k1, k2, k3, k4, k5, k6, k7, k8, k9, k10, k11⟩, hb64⟩ := hB'
  have x1 := hC.1.2.1
  unfold f_X13_readEquation_j205
  refine b_getI hM.1 (wp_ifp h5 (b_getA hM.1 h4 (b_getA b0 a5 (b_stI k2 (by omega) (by omega) (by omega) (b_getA hM.1 h4 (b_getA b0 a6 (b_stI k3 (by omega) (by omega) (by omega) (b_getA hM.1 h4 (b_getA b0 a7 (b_stI k4 (by omega) (by omega) (by omega) ?_))))))))))
  have eI2 : ∀ x, x ≠ rb + 2 → x ≠ rb + 3 → x ≠ rb + 4 → st2 (st2 (st2 I (rb + 2) (bne B) (zn f)) (rb + 3) (bne B) (zn m')) (rb + 4) (bne B) (zn r) x = I x := fun x z1 z2 z3 => by rw [st2_nb z3, st2_nb z2, st2_nb z1]
  have hN2 : NmR (st2 (st2 (st2 I (rb + 2) (bne B) (zn f)) (rb + 3) (bne B) (zn m')) (rb + 4) (bne B) (zn r)) J rb N := ⟨by rw [eI2 rb (by omega) (by omega) (by omega)]; exact hN.1, fun k hk => ⟨(hN.2 k hk).1, by rw [eI2 _ (by omega) (by omega) (by omega)]; exact (hN.2 k hk).2.1, by rw [eI2 _ (by omega) (by omega) (by omega)]; exact (hN.2 k hk).2.2⟩⟩
  refine b_ck hM.1 (wp_bd (t_names (s := 1) (v := v) hM h4 hB hN2 hN1 (fun I3 J3 f1 f2 f3 hN3 => b_getA hM.1 h4 (b_getIv b0 ((f2 1 (by decide)).trans ((congrFun (eI2 rb (by omega) (by omega) (by omega)) 1).trans x1)) (b_putI b0 (by omega) (wp_rt ?_))))))
  rw [zn_succ]
  have eI : ∀ x, x ≠ rb → x ≠ rb + 10 → x ≠ rb + 11 → x ≠ rb + 2 → x ≠ rb + 3 → x ≠ rb + 4 → st2 I3 rb 1 (zn (bne B + 1)) x = I x := fun x z0 z1 z2 z3 z4 z5 => by rw [st2_nb z0, f1 x z0 z1 z2, eI2 x z3 z4 z5]
  refine q _ _ (fun x hx => ⟨eI x (by omega) (by omega) (by omega) (by omega) (by omega) (by omega), f3 x (by omega)⟩) (hC.addE hk hB hb hne ?_ st2_at ?_ (fun x _ hx => eI x (by omega) (by omega) (by omega) (by omega) (by omega) (by omega)) (fun x _ hx => f3 x (by omega)) (fun j _ => ⟨by rw [eI _ (by omega) (by omega) (by omega) (by omega) (by omega) (by omega)], by rw [eI _ (by omega) (by omega) (by omega) (by omega) (by omega) (by omega)]⟩) (fun j hj => ⟨?_, ?_, ?_⟩) ⟨?_, ?_, ?_, fun t ht => ⟨?_, ?_⟩⟩) ⟨?_, fun k hk => ?_⟩
  · rw [st2_nk (by decide), f2 0 (by decide), eI2 rb (by omega) (by omega) (by omega)]
  · rw [st2_nk (by decide), f2 2 (by decide), eI2 rb (by omega) (by omega) (by omega)]
  · rw [st2_nb (by omega), f1 _ (by omega) (by omega) (by omega), st2_nb (by omega), st2_nb (by omega), st2_nk (by omega)]
  · rw [st2_nb (by omega), f1 _ (by omega) (by omega) (by omega), st2_nb (by omega), st2_nk (by omega), st2_nb (by omega)]
  · rw [st2_nb (by omega), f1 _ (by omega) (by omega) (by omega), st2_nk (by omega), st2_nb (by omega), st2_nb (by omega)]
  · rw [st2_nb (by omega), f1 _ (by omega) (by omega) (by omega), st2_nb (by omega), st2_nb (by omega), st2_at]
  · rw [st2_nb (by omega), f1 _ (by omega) (by omega) (by omega), st2_nb (by omega), st2_at]
  · rw [st2_nb (by omega), f1 _ (by omega) (by omega) (by omega), st2_at]
  · rw [eI _ (by omega) (by omega) (by omega) (by omega) (by omega) (by omega)]; exact (hU t ht).1
  · rw [eI _ (by omega) (by omega) (by omega) (by omega) (by omega) (by omega)]; exact (hU t ht).2
  · rw [st2_nk (by decide)]; exact hN3.1
  · obtain ⟨y1, y2, y3⟩ := hN3.2 k hk
    exact ⟨y1, by rw [st2_nb (by omega)]; exact y2, by rw [st2_nb (by omega)]; exact y3⟩
theorem NmR.re (h : NmR I J rb N) (hb : 236 ≤ rb) (f : REf rb e I J I' J') : NmR I' J' rb N := ⟨by rw [f.1 rb (by omega) (by omega) (by omega)]; exact h.1, fun k hk => ⟨by rw [f.2.2.2.1 _ (by omega)]; exact (h.2 k hk).1, by rw [f.1 _ (by omega) (by omega) (by omega)]; exact (h.2 k hk).2.1, by rw [f.1 _ (by omega) (by omega) (by omega)]; exact (h.2 k hk).2.2⟩⟩
theorem RBC.re (hk : okB B) (h : RBC K I J A rb B) (hB : BS K A rb) (hb : 236 ≤ rb) (f : REf rb (bne B) I J I' J') : RBC K I' J' A rb B := by
  obtain ⟨⟨o1, o2⟩, ⟨o3, o4⟩, ⟨o5, o6⟩⟩ := hk
  obtain ⟨⟨x1, x2, x3⟩, x4, x5, x6⟩ := h
  have eI : ∀ x, 236 ≤ x → x ≠ rb + 5 → x ≠ rb + 6 → I' x = I x := fun x hx z1 z2 => f.1 x (by omega) z1 z2
  have eJ : ∀ x, 236 ≤ x → J' x = J x := fun x hx => f.2.2.2.1 x (by omega)
  refine ⟨⟨by rw [eI _ (by omega) (by omega) (by omega)]; exact x1, by rw [eI _ (by omega) (by omega) (by omega)]; exact x2, by rw [eI _ (by omega) (by omega) (by omega)]; exact x3⟩, fun g hg => ?_, fun i hi => ?_, fun l hl => ⟨by rw [eI _ (by omega) (by omega) (by omega)]; exact (x6 l hl).1, fun i hi => by rw [eJ _ (by omega)]; exact (x6 l hl).2 i hi⟩⟩
  · obtain ⟨fo, z1, z2, z3, z4⟩ := x4 g hg
    have d0 := hB.out z3.1 (Or.inl rfl)
    have d1 := hB.out z3.2.2.1.1 (Or.inr (Or.inl rfl))
    exact ⟨fo, z1, z2, z3, (z4.mvI (eI _ (by omega) (by omega) (by omega)) (eI _ (by omega) (by omega) (by omega))).mv (eJ _ (by omega))⟩
  · obtain ⟨z1, z2, z3, z4⟩ := x5 i hi
    have hT := (o4 i hi).2.1.2.1
    exact ⟨by rw [eI _ (by omega) (by omega) (by omega)]; exact z1, by rw [eI _ (by omega) (by omega) (by omega)]; exact z2, by rw [eI _ (by omega) (by omega) (by omega)]; exact z3, fun t ht => ⟨by rw [(f.2.1 _ (by omega)).1]; exact (z4 t ht).1, by rw [(f.2.1 _ (by omega)).2]; exact (z4 t ht).2⟩⟩
theorem t_rEqu {Q : Unit → Hp → Prop} (hM : MS K A 224) (hS : SK K) (hR : RRd K I J A rb b n B N t) (hNB : okNB B N) (hw : kd' kwC b n t ≠ 1)
    (qe : ∀ k s I' J', sEqu b n B N t = Sum.inl (k, s) → REf rb (bne B) I J I' J' → I' 224 11 = 5 → I' 224 15 = zn k → I' 224 16 = zn (ps b n s) → Q () (K, I', J', A))
    (qs : ∀ B' N' t' I' J' I1 J1, sEqu b n B N t = Sum.inr (B', N', t') → REf rb (bne B) I J I1 J1 → (∀ x, (x < rb ∨ rb + 12 ≤ x) → I' x = I1 x ∧ J' x = J1 x) → RRd K I' J' A rb b n B' N' t' → Q () (K, I', J', A)) : wp (f_X13_readEquation (some 224)) Q (K, I, J, A) := by
  obtain ⟨⟨h4, hb, hB⟩, ⟨hBt, hRT, h5, hz⟩, ⟨hC, hN⟩, okb, okn, hsum⟩ := hR
  have hf4 := okb.1.1
  have he4 := okb.2.1.1
  have hl8 := okb.2.2.1
  have hB' := hB
  obtain ⟨b0, ⟨a4, a5, a6, a7, a8, a9, a10, a11, a12, a13, a14⟩, ⟨k1, k2, k3, k4, k5, k6, k7, k8, k9, k10, k11⟩, hb64⟩ := hB'
  unfold f_X13_readEquation f_X13_begins
  refine b_getA hM.1 h4 (b_getIv b0 hC.1.2.1 (b_ck hM.1 ?_))
  unfold sEqu at qe qs
  by_cases hne : bne B = 4
  · rw [if_pos hne] at qe
    refine b_ite (wp_ifn (by rw [hne]; decide) (b_assoc (b_ck hM.1 (b_eq (t_wrong (k := 5) hM hRT h5) (b_assoc (b_ck hM.1 (b_eq (o_goesOn hM over_11) (b_rt ?_))))))))
    refine b_getA hM.1 h4 (b_getI b0 (b_ck hM.1 (b_eq (o_fresh hM over_11 h4 hB (hN.rw' hb RW.over) okn) ?_)))
    exact o_tailE2 hM over_11 h4 hB (hN.rw' hb RW.over) okn (qe 5 t _ _ rfl (RW.over.ref hb) over_11 over_15 over_16)
  rw [if_neg hne] at qe qs
  refine b_ite (wp_ifp (fun q => hne ((zn_inj (b := 4) (by omega) (by omega)).mp q)) (b_assoc (b_ck hM.1 (wp_bd (t_next hM hBt hRT h5 hw (fun I1 J1 f1 r1 s1 => b_rt ?_))))))
  have W1 : RW I J I1 J1 := f1.rw'
  refine b_getA hM.1 h4 (b_getIv b0 ((congrFun (W1.1 rb (by omega)) 1).trans hC.1.2.1) ?_)
  refine b_ck hM.1 (wp_bd (t_fresh hM hS (hBt.rw' W1) r1 s1 h4 hb hB (hN.rw' hb W1) okn (fun g1 g2 I2 J2 f2 r2 s2 => ?_) (fun g1 g2 v => ?_) (fun g1 v => ?_)))
  rotate_left
  · rw [if_neg (fun q => q g1), if_pos g2] at qe
    exact o_tailE2 hM over_11 h4 hB (hN.rw' hb (W1.trans RW.over)) okn (qe 3 (t + 1) _ _ rfl ((W1.trans RW.over).ref hb) over_11 over_15 over_16)
  · rw [if_pos g1] at qe
    exact o_tailE2 hM over_11 h4 hB (hN.rw' hb (W1.trans RW.over)) okn (qe 1 (t + 1) _ _ rfl ((W1.trans RW.over).ref hb) over_11 over_15 over_16)
  rw [if_neg (fun q => q g1), if_neg (by rw [g2]; decide)] at qe qs
  have W2 : RW I J I2 J2 := W1.trans f2.rw'
  refine b_ck hM.1 (wp_bd (t_inFieldR hM hS (hBt.rw' W2) r2 s2 h4 hb hB (hN.rw' hb W2) okn (fun k s I3 J3 g3 ov => ?_) (fun f I3 J3 g3 W3' z15 r3 s3 => ?_)))
  · rw [g3] at qe
    refine b_ck hM.1 (b_eq (o_needs hM ov.2.1) ?_)
    unfold wp
    exact ⟨_, _, o_l43 hM ov.2.1, qe k s _ _ rfl ((W2.trans ov.1).ref hb) ov.2.1 ov.2.2.1 ov.2.2.2⟩
  rw [g3] at qe qs
  dsimp only at qe qs
  have W3 : RW I J I3 J3 := W2.trans W3'
  have hf : f < bnf B := fnN_ok hNB (sInF_f g3).1
  have hpn := okb.1.2 f hf
  obtain ⟨hp1, hp2, hm1, hm2⟩ := pn_rng hpn
  obtain ⟨fo, hfo, hfo2, hRF, hRC⟩ := hC.2.1 f hf
  have d0 := hB.out hRF.1 (Or.inl rfl)
  refine b_ck hM.1 (wp_bd (t_needs (i := 5) hM hS (hBt.rw' W3) r3 s3 (by decide) (fun g4 I4 J4 f4 r4 s4 => ?_) (fun g4 => ?_)))
  rotate_left
  · rw [if_pos g4] at qe
    unfold wp
    exact ⟨_, _, o_l43 hM over_11, qe 1 (t + 4) _ _ rfl ((W3.trans RW.over).ref hb) over_11 over_15 over_16⟩
  rw [if_neg (by rw [g4]; decide)] at qe qs
  have W4 : RW I J I4 J4 := W3.trans f4.rw'
  have z4 : I4 224 15 = 0 := by rw [f4.2.1 15 (by omega), z15, f2.2.1 15 (by omega), f1.2.1 15 (by omega)]; exact hz
  unfold f_X13_readEquation_l43
  refine t_rTerms (c := fun _ => 0) (u := fun _ => 0) hM hS h4 hb hB (by omega) (by omega) hfo hRF hfo2 (by omega) ⟨hp1, hp2⟩ 5 0 fuel (t + 5) I4 J4 (by omega) (by omega) (by unfold fuel; omega) (fun s hs => absurd hs (Nat.not_lt_zero s)) (hBt.rw' W4) r4 s4 (by rw [W4.1 fo (by omega)]; exact hRC.1.1) (fun kk s I5 J5 g5 R5 y1 y2 y3 => ?_) (fun m' c' u' t' I5 J5 g5 R5 U5 r5 s5 z5 => ?_)
  · rw [g5] at qe
    exact qe kk s _ _ rfl ((W4.ref hb).trans R5) y1 y2 y3
  rw [g5] at qe qs
  dsimp only at qe qs
  have hokE := sTms_ok (by omega) 5 0 _ _ _ _ _ _ _ (by omega) (fun s hs => absurd hs (Nat.not_lt_zero s)) g5
  have R5' : REf rb (bne B) I J I5 J5 := (W4.ref hb).trans R5
  have hBt5 : RB I5 b n := hBt.re hb R5'
  unfold f_X13_readEquation_j167
  refine b_ck hM.1 (wp_bd (t_needs (i := 7) hM hS hBt5 r5 s5 (by decide) (fun g6 I6 J6 f6 r6 s6 => ?_) (fun g6 => ?_)))
  rotate_left
  · rw [if_pos g6] at qe
    refine b_getIv hM.1 over_11 (wp_ifn (by decide) ?_)
    unfold wp
    exact ⟨_, _, o_j205 hM over_11, qe 1 t' _ _ rfl (R5'.trans (RW.over.ref hb)) over_11 over_15 over_16⟩
  rw [if_neg (by rw [g6]; decide)] at qe qs
  have R6 : REf rb (bne B) I J I6 J6 := R5'.trans (f6.rw'.ref hb)
  refine b_getI hM.1 (wp_ifp s6 (b_getA hM.1 h4 (b_getA b0 a4 (b_ldA k1 (by decide) (by omega) (by omega) ?_))))
  rw [hfo]
  refine b_getIv hRF.1 (show I6 fo 0 = zn (bfp B f) by rw [R6.1 fo (by omega) (by omega) (by omega)]; exact hRC.1.1) ?_
  rw [zn_pred1 (by omega)]
  refine b_ck hM.1 (wp_bd (t_readWhole (lo := 0) (hi := bfp B f - 1) hM (hBt.re hb R6) r6 s6 (by omega) (by omega) (fun g7 g8 g9 I7 J7 f7 r7 s7 => ?_) (fun g7 g8 => ?_) (fun g7 => ?_)))
  rotate_left
  · have g8' : ¬ (0 ≤ whN b n (t' + 1) ∧ whN b n (t' + 1) ≤ bfp B f - 1) := g8
    have hin : inR b n (t' + 1) 0 (bfp B f - 1) = false := by
      unfold inR
      rw [show (decide (0 ≤ whN b n (t' + 1)) && decide (whN b n (t' + 1) ≤ bfp B f - 1)) = false from by simp; omega, Bool.and_false]
    rw [if_neg (fun q => q g7), if_pos hin] at qe
    unfold wp
    exact ⟨_, _, o_j205 hM over_11, qe 4 (t' + 1) _ _ rfl (R6.trans (RW.over.ref hb)) over_11 over_15 over_16⟩
  · rw [if_pos g7] at qe
    unfold wp
    exact ⟨_, _, o_j205 hM over_11, qe 1 (t' + 1) _ _ rfl (R6.trans (RW.over.ref hb)) over_11 over_15 over_16⟩
  have g9' : whN b n (t' + 1) ≤ bfp B f - 1 := g9
  have hin : inR b n (t' + 1) 0 (bfp B f - 1) = true := by
    unfold inR
    rw [show (decide (0 ≤ whN b n (t' + 1)) && decide (whN b n (t' + 1) ≤ bfp B f - 1)) = true from by simp; omega, Bool.and_true]
    have : kd' kwC b n (t' + 1) = 2 := g7
    rw [this]; rfl
  rw [if_neg (fun q => q g7), if_neg (by rw [hin]; decide)] at qs
  have R7 : REf rb (bne B) I J I7 J7 := R6.trans (f7.rw'.ref hb)
  have hU7 : REU I7 rb (bne B) m' c' u' := fun s hs => ⟨by rw [f7.1 _ (by omega), f6.1 _ (by omega)]; exact (U5 s hs).1, by rw [f7.1 _ (by omega), f6.1 _ (by omega)]; exact (U5 s hs).2⟩
  refine t_j205 hM s7 h4 hb hB (hC.re okb hB hb R7) (hN.re hb R7) okb (by omega) (by omega) hU7 hokE.2.1 (by omega) (fun I8 J8 e8 hC8 hN8 => qs _ _ _ I8 J8 I7 J7 rfl R7 e8 ⟨⟨h4, hb, hB⟩, ⟨?_, ?_, ?_, ?_⟩, ⟨hC8, hN8⟩, addEq_ok okb (by omega) hf hokE (show whN b n (t' + 1) < bfp B f by omega), addN_ok okn (by omega) (by decide) (by omega), ?_⟩)
  · have := hBt.re hb R7
    exact ⟨this.1, by rw [(e8 224 (by omega)).1]; exact this.2.1, fun i hi => ⟨(this.2.2 i hi).1, by rw [(e8 227 (by omega)).1]; exact (this.2.2 i hi).2⟩⟩
  · obtain ⟨u1, u2, u3⟩ := r7
    unfold RT
    rw [(e8 224 (by omega)).1, (e8 224 (by omega)).2]
    exact ⟨u1, u2, u3⟩
  · rw [(e8 224 (by omega)).1]; exact s7
  · rw [(e8 224 (by omega)).1]
    have y1 : I7 224 15 = I6 224 15 := f7.2.1 15 (by omega)
    have y2 : I6 224 15 = I5 224 15 := f6.2.1 15 (by omega)
    rw [y1, y2, z5]; exact z4
  · show N.1 + 1 = bnf B + (bne B + 1) + bnl B
    omega
end
