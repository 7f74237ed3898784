/-! ===== a let's line: the reference reads it ===== -/
section
variable {β : Type} {kw : Nat → Int64} {K : List (Nat × Nat)} {I I' : Nat → Nat → Int32} {J J' : Nat → Nat → Int64} {A : Nat → Nat → Option Nat} {w : WD}
variable {b : Nat → Nat} {n t m p f fo rb r dd R e : Nat} {B : BKD} {N : NMD} {at' : Nat → Bool → EX} {H : Bool} {A' A'' : Nat → Nat → Option Nat}
theorem t_rLet {Q : Unit → Hp → Prop} (hM : MS K A 224) (hS : SK K) (hR : RRd K I J A rb b n B N t) (hNB : okNB B N) (hw : kd' kwC b n t ≠ 1)
    (qe : ∀ k s I' J', sLet b n B N t = Sum.inl (k, s) → RFr rb I J A I' J' A → I' 224 11 = 5 → I' 224 15 = zn k → I' 224 16 = zn (ps b n s) → Q () (K, I', J', A))
    (qs : ∀ B' N' t' I' J', sLet b n B N t = Sum.inr (B', N', t') → RFr rb I J A I' J' A → RRd K I' J' A rb b n B' N' t' → okNB B' N' → t < t' ∧ t' ≤ 900 → bnf B' = bnf B → Q () (K, I', J', A)) : wp (f_X13_readLet (some 224)) Q (K, I, J, A) := by
  obtain ⟨⟨h4, hb, hB⟩, ⟨hBt, hRT, h5, hz⟩, ⟨hC, hN⟩, okb, okn, hsum⟩ := hR
  have hf4 := okb.1.1
  have he4 := okb.2.1.1
  have hl8 := okb.2.2.1
  have hn := hBt.1
  have hB' := hB
  obtain ⟨b0, ⟨a4, a5, a6, a7, a8, a9, a10, a11, a12, a13, a14⟩, ⟨k1, k2, k3, k4, k5, k6, k7, k8, k9, k10, k11⟩, hb64⟩ := hB'
  unfold f_X13_readLet f_X13_begins
  refine b_getA hM.1 h4 (b_getIv b0 hC.1.2.2 (b_ck hM.1 ?_))
  unfold sLet at qe qs
  have hLd : sLetC b n B N t = (if bnl B = 8 then Sum.inl (5, t)
    else if kd' kwC b n (t + 1) ≠ 5 then Sum.inl (1, t + 1)
    else if (rk N (vl kwC b n (t + 1))).isSome = true then Sum.inl (3, t + 1)
    else match sInF b n N (t + 2) with
      | Sum.inl e => Sum.inl e
      | Sum.inr ft => if isW b n (t + 4) 8 = false then Sum.inl (1, t + 4)
        else match suX b n (bfp B ft.1) (bfn B ft.1) ft.1 B N (t + 5) false with
          | Sum.inl e => Sum.inl e
          | Sum.inr q => Sum.inr (addLt B ft.1 q.1, addN N (vl kwC b n (t + 1)) 2 (bnl B), q.2.2, q.2.1)) := rfl
  by_cases hnl : bnl B = 8
  · rw [if_pos hnl] at hLd
    rw [hLd] at qe
    refine b_ite (wp_ifn (by rw [hnl]; decide) (b_assoc (b_ck hM.1 (b_eq (t_wrong (k := 5) hM hRT h5) (b_assoc (b_ck hM.1 (b_eq (o_goesOn hM over_11) (b_rt ?_))))))))
    exact o_tailL hM over_11 h4 hB (hN.rw' hb RW.over) okn (fun I' F o1 o2 o3 => qe 5 t I' J rfl (RW.over.rfr.trans F.rfr) o1 (o2.trans over_15) (o3.trans over_16))
  rw [if_neg hnl] at hLd
  refine b_ite (wp_ifp (fun q => hnl ((zn_inj (b := 8) (by omega) (by omega)).mp q)) (b_assoc (b_ck hM.1 (wp_bd (t_next hM hBt hRT h5 hw (fun I1 J1 f1 r1 s1 => b_rt ?_))))))
  have W1 : RW I J I1 J1 := f1.rw'
  refine b_getIv hM.1 r1.1 ?_
  -- once it is over, behind the name
  have ov2 : ∀ {I2 : Nat → Nat → Int32} {J2 : Nat → Nat → Int64} {k s : Nat}, I2 224 11 = 5 → NmR I2 J2 rb N → RFr rb I J A I2 J2 A → I2 224 15 = zn k → I2 224 16 = zn (ps b n s) → (match sLetC b n B N t with
      | Sum.inl e => (Sum.inl e : SR)
      | Sum.inr q => if endT b n q.2.2.1 = true then (if q.2.2.2 = true then Sum.inl (7, t + 1) else Sum.inr (q.1, q.2.1, q.2.2.1)) else Sum.inl (1, q.2.2.1)) = Sum.inl (k, s) → ∀ {Z : Int32 → Mo Unit},
      wp (mBd (mCk 11 (some 224) (f_X13_readField (some 224))) (fun r5 => mBd (mCk 11 (some 224) (f_X13_needs (some 224) ((some 14)))) (fun _ => mBd (mPutI 11 18 (some 224) (0 : Int32)) (fun _ => mBd (mPutI 11 19 (some 224) (0 : Int32)) (fun _ => mBd (mPutZ 11 20 (some 224) (0 : Int32)) (fun _ => mBd (mGetI 11 11 (some 224)) (fun r6 => (if ¬ r6 = (5 : Int32) then Z r5 else mRt ())))))))) Q (K, I2, J2, A) := by
    intro I2 J2 k s o1 hN2 F o2 o3 e Z
    refine b_ck hM.1 (b_eq (o_readField hM o1 h4 hB hN2 okn) (b_ck hM.1 (b_eq (o_needs hM o1) (b_putI hM.1 (by decide) (b_putI hM.1 (by decide) (b_putZ hM.1 (by decide) (by decide) ?_))))))
    have e5 : st2 (st2 (st2 I2 224 18 0) 224 19 0) 224 20 0 224 11 = 5 := by rw [st2_nk (by decide), st2_nk (by decide), st2_nk (by decide)]; exact o1
    have FF : YF 0 I2 J2 (st2 (st2 (st2 I2 224 18 0) 224 19 0) 224 20 0) J2 := (YF.i (j := 18) (by omega)).trans ((YF.i (j := 19) (by omega)).trans (YF.i (j := 20) (by omega)))
    refine b_getIv hM.1 e5 (wp_ifn (by decide) (wp_rt (qe k s _ J2 e (F.trans FF.rfr) e5 ?_ ?_)))
    · rw [st2_nk (by decide), st2_nk (by decide), st2_nk (by decide)]; exact o2
    · rw [st2_nk (by decide), st2_nk (by decide), st2_nk (by decide)]; exact o3
  refine b_ck hM.1 (wp_bd (t_fresh hM hS (hBt.rw' W1) r1 s1 h4 hb hB (hN.rw' hb W1) okn (fun g1 g2 I2 J2 f2 r2 s2 => ?_) (fun g1 g2 v => ?_) (fun g1 v => ?_)))
  rotate_left
  · rw [if_neg (fun q => q g1), if_pos g2] at hLd
    exact ov2 over_11 (hN.rw' hb (W1.trans RW.over)) (W1.trans RW.over).rfr over_15 over_16 (by rw [hLd])
  · rw [if_pos g1] at hLd
    exact ov2 over_11 (hN.rw' hb (W1.trans RW.over)) (W1.trans RW.over).rfr over_15 over_16 (by rw [hLd])
  rw [if_neg (fun q => q g1), if_neg (by rw [g2]; decide)] at hLd
  have W2 : RW I J I2 J2 := W1.trans f2.rw'
  refine b_ck hM.1 (wp_bd (t_inFieldR hM hS (hBt.rw' W2) r2 s2 h4 hb hB (hN.rw' hb W2) okn (fun k s I3 J3 g3 ov => ?_) (fun f I3 J3 g3 W3' z15 r3 s3 => ?_)))
  · rw [g3] at hLd
    refine b_ck hM.1 (b_eq (o_needs hM ov.2.1) (b_putI hM.1 (by decide) (b_putI hM.1 (by decide) (b_putZ hM.1 (by decide) (by decide) ?_))))
    have e5 : st2 (st2 (st2 I3 224 18 0) 224 19 0) 224 20 0 224 11 = 5 := by rw [st2_nk (by decide), st2_nk (by decide), st2_nk (by decide)]; exact ov.2.1
    have FF : YF 0 I3 J3 (st2 (st2 (st2 I3 224 18 0) 224 19 0) 224 20 0) J3 := (YF.i (j := 18) (by omega)).trans ((YF.i (j := 19) (by omega)).trans (YF.i (j := 20) (by omega)))
    refine b_getIv hM.1 e5 (wp_ifn (by decide) (wp_rt (qe k s _ J3 (by rw [hLd]) ((W2.trans ov.1).rfr.trans FF.rfr) e5 ?_ ?_)))
    · rw [st2_nk (by decide), st2_nk (by decide), st2_nk (by decide)]; exact ov.2.2.1
    · rw [st2_nk (by decide), st2_nk (by decide), st2_nk (by decide)]; exact ov.2.2.2
  rw [g3] at hLd
  dsimp only at hLd
  have W3 : RW I J I3 J3 := W2.trans W3'
  have hf : f < bnf B := fnN_ok hNB (sInF_f g3).1
  obtain ⟨fo, hfo, hfo2, hRF, hRC⟩ := hC.2.1 f hf
  refine b_ck hM.1 (wp_bd (t_needs (i := 8) hM hS (hBt.rw' W3) r3 s3 (by decide) (fun g4 I4 J4 f4 r4 s4 => ?_) (fun g4 => ?_)))
  rotate_left
  · rw [if_pos g4] at hLd
    refine b_putI hM.1 (by decide) (b_putI hM.1 (by decide) (b_putZ hM.1 (by decide) (by decide) ?_))
    have e5 : st2 (st2 (st2 (over I3 1 (ps b n (t + 4))) 224 18 0) 224 19 0) 224 20 0 224 11 = 5 := by rw [st2_nk (by decide), st2_nk (by decide), st2_nk (by decide)]; exact over_11
    have FF : YF 0 (over I3 1 (ps b n (t + 4))) J3 (st2 (st2 (st2 (over I3 1 (ps b n (t + 4))) 224 18 0) 224 19 0) 224 20 0) J3 := (YF.i (j := 18) (by omega)).trans ((YF.i (j := 19) (by omega)).trans (YF.i (j := 20) (by omega)))
    refine b_getIv hM.1 e5 (wp_ifn (by decide) (wp_rt (qe 1 (t + 4) _ J3 (by rw [hLd]) ((W3.trans RW.over).rfr.trans FF.rfr) e5 ?_ ?_)))
    · rw [st2_nk (by decide), st2_nk (by decide), st2_nk (by decide)]; exact over_15
    · rw [st2_nk (by decide), st2_nk (by decide), st2_nk (by decide)]; exact over_16
  rw [if_neg (by rw [g4]; decide)] at hLd
  have W4 : RW I J I4 J4 := W3.trans f4.rw'
  have z4 : I4 224 15 = 0 := by rw [f4.2.1 15 (by omega), z15, f2.2.1 15 (by omega), f1.2.1 15 (by omega)]; exact hz
  refine b_putI hM.1 (by decide) (b_putI hM.1 (by decide) (b_putZ hM.1 (by decide) (by decide) ?_))
  have F5 : YF 0 I4 J4 (st2 (st2 (st2 I4 224 18 0) 224 19 0) 224 20 0) J4 := (YF.i (j := 18) (by omega)).trans ((YF.i (j := 19) (by omega)).trans (YF.i (j := 20) (by omega)))
  have hYS : YS K A rb B N f fo := ⟨hM, hS, h4, hb, hB, ⟨okb, okn, hNB⟩, hf, hfo, hRF, hfo2⟩
  have Y5 : YI K (st2 (st2 (st2 I4 224 18 0) 224 19 0) 224 20 0) J4 A rb b n B N (t + 5) false 0 0 := by
    refine ⟨⟨(hBt.rw' W4).yf F5, ((r4.k (by omega)).k (by omega)).k (by omega), ?_⟩, ⟨(hC.rw' okb hb W4).hi okb hb (fun x hx => F5.1 x (by omega)) (fun x hx => rfl), (hN.rw' hb W4).hi hb (fun x hx => F5.1 x (by omega)) (fun x hx => rfl)⟩, ?_, ?_, ?_⟩
    · rw [st2_nk (by decide), st2_nk (by decide), st2_nk (by decide)]; exact s4
    · rw [st2_nk (by decide), st2_nk (by decide), st2_at]; rfl
    · rw [st2_nk (by decide), st2_at]; rfl
    · rw [st2_at]; rfl
  have z5 : (st2 (st2 (st2 I4 224 18 0) 224 19 0) 224 20 0) 224 15 = 0 := by rw [st2_nk (by decide), st2_nk (by decide), st2_nk (by decide)]; exact z4
  refine b_getI hM.1 (wp_ifp Y5.1.2.2 (b_getA hM.1 h4 (b_getA b0 a4 (b_ldA k1 (by decide) (by omega) (by omega) ?_))))
  rw [hfo]
  refine b_ck hM.1 (wp_bd (y_sum0 hYS hn (t + 5) false 0 _ J4 _ (by omega) Y5 (fun k s I6 J6 v g6 F6 o1 o2 o3 => ?_) (fun y H6 t6 I6 J6 g6 F6 Y6 e15 v6 => ?_)))
  · rw [g6] at hLd
    exact b_getIv hM.1 o1 (wp_ifn (by decide) (wp_rt (qe k s I6 J6 (by rw [hLd]) (W4.rfr.trans (F5.rfr.trans F6.rfr)) o1 o2 o3)))
  have htm := suX_tame hn (okb.1.2 f hf) okb hNB _ _ _ _ _ g6
  rw [g6] at hLd
  dsimp only at hLd
  rw [hLd] at qe qs
  dsimp only at qe qs
  have F6' : RFr rb I J A I6 J6 A := W4.rfr.trans (F5.rfr.trans F6.rfr)
  have fin : endT b n t6 = true → wp (f_X13_readLet_j108 (some 224) (zn (ps b n (t + 1))) (vl kwC b n (t + 1)) (zn f) (zn 0)) Q (K, I6, J6, A) := by
    intro hE
    unfold f_X13_readLet_j108
    rw [if_pos hE] at qe qs
    refine b_getIv hM.1 Y6.2.2.2.2 ?_
    cases hH : H6 with
    | true =>
      rw [if_pos hH] at qe
      refine wp_ifn (by decide) (b_ck hM.1 ?_)
      have ew : f_X13_wrongThere (some 224) (7 : Int32) (zn (ps b n (t + 1))) (K, I6, J6, A) = some ((), (K, over I6 7 (ps b n (t + 1)), J6, A)) := by
        apply wp_get'
        unfold f_X13_wrongThere
        exact b_getI hM.1 (wp_ifp Y6.1.2.2 (b_putI hM.1 (by decide) (b_putI hM.1 (by decide) (b_putI hM.1 (by decide) (wp_rt ⟨rfl, rfl⟩)))))
      refine b_eq ew ?_
      unfold f_X13_readLet_j122
      exact b_getIv hM.1 over_11 (wp_ifn (by decide) (wp_rt (qe 7 (t + 1) _ J6 rfl (F6'.trans RW.over.rfr) over_11 over_15 over_16)))
    | false =>
      rw [hH, if_neg (by decide)] at qs
      refine wp_ifp rfl (t_j122 (B := B) hM Y6.1.2.2 h4 hb hB Y6.2.1.1 Y6.2.1.2 okb (by omega) (by omega) (v6 hH) (by omega) (fun I7 J7 e7 hC7 hN7 => qs _ _ t6 I7 J7 rfl (F6'.trans (RFr.hi hb (fun x hx => (e7 x (Or.inl hx)).1) (fun x hx => (e7 x (Or.inl hx)).2) (fun _ _ => rfl))) ⟨⟨h4, hb, hB⟩, ⟨?_, ?_, ?_, ?_⟩, ⟨hC7, hN7⟩, addLt_ok okb (by omega) hf htm.2.1 (htm.2.2 hH).1, addN_ok okn (by omega) (by decide) (by omega), ?_⟩ (okNB_let hNB) ⟨by omega, htm.1.2⟩ rfl))
      · exact ⟨Y6.1.1.1, by rw [(e7 224 (by omega)).1]; exact Y6.1.1.2.1, fun i hi => ⟨(Y6.1.1.2.2 i hi).1, by rw [(e7 227 (by omega)).1]; exact (Y6.1.1.2.2 i hi).2⟩⟩
      · have u := Y6.1.2.1
        unfold RT at u ⊢
        rw [(e7 224 (by omega)).1, (e7 224 (by omega)).2]
        exact u
      · rw [(e7 224 (by omega)).1]; exact Y6.1.2.2
      · rw [(e7 224 (by omega)).1, e15]; exact z5
      · show N.1 + 1 = bnf B + bne B + (bnl B + 1)
        omega
  refine b_getI hM.1 (wp_ifp Y6.1.2.2 (b_getI hM.1 ?_))
  by_cases hz6 : kd' kwC b n t6 = 0
  · have h1 : I6 224 11 = 1 := by
      obtain ⟨_, hh, _⟩ := Y6.1.2.1
      rcases hh with ⟨h1, h2⟩ | ⟨h1, _⟩ | ⟨h1, _⟩ | ⟨h1, _⟩ | ⟨h1, _⟩ | ⟨h1, _⟩
      · exact h2
      all_goals omega
    refine wp_ifp h1 (fin ?_)
    unfold endT; rw [hz6]; rfl
  · have h1 : ¬ I6 224 11 = 1 := by
      obtain ⟨_, hh, _⟩ := Y6.1.2.1
      rcases hh with ⟨h1, h2⟩ | ⟨h1, h2⟩ | ⟨h1, h2, _⟩ | ⟨h1, h2, _⟩ | ⟨h1, h2, _⟩ | ⟨h1, h2, _⟩
      · omega
      all_goals (rw [h2]; decide)
    refine wp_ifn h1 (b_ck hM.1 (b_eq (t_isSign (c := 59) hM Y6.1.2.1) ?_))
    cases hg : isG b n t6 59 with
    | true => exact wp_ifp (by decide) (fin (by unfold endT; rw [hg, Bool.or_true]))
    | false =>
      have hE : endT b n t6 = false := by unfold endT; rw [hg, beq_eq_false_iff_ne.mpr hz6]; rfl
      rw [hE, if_neg (by decide)] at qe
      refine wp_ifn (by decide) (b_ck hM.1 (b_eq (t_wrong (k := 1) hM Y6.1.2.1 Y6.1.2.2) ?_))
      unfold f_X13_readLet_j108 f_X13_readLet_j122
      have e20 : (over I6 1 (ps b n t6)) 224 20 = b01 H6 := by rw [over_j (by decide)]; exact Y6.2.2.2.2
      have q1 := qe 1 t6 _ J6 rfl (F6'.trans RW.over.rfr) over_11 over_15 over_16
      refine b_getIv hM.1 e20 ?_
      cases hH : H6 with
      | true => exact wp_ifn (by decide) (b_ck hM.1 (b_eq (o_wrongThere hM over_11) (b_getIv hM.1 over_11 (wp_ifn (by decide) (wp_rt q1)))))
      | false => exact wp_ifp rfl (b_getIv hM.1 over_11 (wp_ifn (by decide) (wp_rt q1)))
end
