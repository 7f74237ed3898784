/-! ===== expressions: the reference's atoms ===== -/
section
variable {β : Type} {kw : Nat → Int64} {K : List (Nat × Nat)} {I I' : Nat → Nat → Int32} {J J' : Nat → Nat → Int64} {A : Nat → Nat → Option Nat} {w : WD}
variable {b : Nat → Nat} {n t m p f fo rb r dd R : Nat} {B : BKD} {N : NMD} {at' : Nat → Bool → EX} {H : Bool}
theorem unit_out {m : Nat} {w : Nat} (h : ¬ (1 ≤ w ∧ w ≤ m - 1)) : unt m w = false := by
  unfold unt unit
  rw [show (decide (0 < (w : Int)) && decide ((w : Int) < (m : Int))) = false from by simp; omega, Bool.false_and]
theorem y_atom {gS gP gA : Option Nat → Option Nat → Int32 → Mo Int32} {gT : Option Nat → Option Nat → Int32 → Int32 → Mo Int32} {dp : Nat → Bool → EX} (hdd : dd ≤ 8) (hS : YS K A rb B N f fo) (hn : n ≤ 900) (hO : YO K A f fo gT)
    (h8 : dd = 8 → ∀ t H, dp t H = dp0 b n t) (hs : dd < 8 → ∀ t H, dp t H = dpS b n (bfn B f) at' t H) (hT : dd < 8 → YT K A rb b n B N f fo dd (2 * dd + 2) at' gT) (hSu : dd < 8 → YC K A rb b n B N f fo (dd + 1) (2 * dd + 2) (suF b n (prF b n (bfn B f) at')) gS) :
    YC K A rb b n B N f fo dd (2 * dd + 2) (fun t H => at0 b n (bfp B f) (bfn B f) f B N (dp t H) t H) (fb_X13_readAtom gS gP gA gT) := by
  intro t H r I J Q hr hI qe qs
  have hS' := hS
  obtain ⟨hM, hSK, h4, hb, hBS, ⟨hk, hkN, hNB⟩, hf, hfo, hRF, hfo2⟩ := hS'
  have hpn := hk.1.2 f hf
  obtain ⟨_, _, hm1, hm2⟩ := pn_rng hpn
  have hI' := hI
  obtain ⟨⟨hB, hRT, h5⟩, ⟨hC, hN⟩, h18, h19, h20⟩ := hI'
  have hFC := hI.fld hS
  unfold fb_X13_readAtom
  refine b_getIv hM.1 h18 (b_getIv hM.1 h18 (b_putI hM.1 (by decide) ?_))
  rw [zn_succ]
  have F1 : YF r I J (st2 I 224 18 (zn (r + 1))) J := YF.i (by omega)
  have Y1 : YI K (st2 I 224 18 (zn (r + 1))) J A rb b n B N t H (r + 1) dd := hI.mv hS F1 (hRT.k (by omega)) (by rw [st2_nk (by omega)]; exact h5) st2_at (by rw [st2_nk (by omega)]; exact h19) (by rw [st2_nk (by omega)]; exact h20)
  have F2 : YF r I J (st2 (st2 I 224 18 (zn (r + 1))) 224 18 (zn r)) J := F1.trans (YF.i (by omega))
  have Y2 : YI K (st2 (st2 I 224 18 (zn (r + 1))) 224 18 (zn r)) J A rb b n B N t H r dd := hI.mv hS F2 ((hRT.k (by omega)).k (by omega)) (by rw [st2_nk (by omega), st2_nk (by omega)]; exact h5) st2_at (by rw [st2_nk (by omega), st2_nk (by omega)]; exact h19) (by rw [st2_nk (by omega), st2_nk (by omega)]; exact h20)
  have z15 : (st2 (st2 I 224 18 (zn (r + 1))) 224 18 (zn r)) 224 15 = I 224 15 := by rw [st2_nk (by omega), st2_nk (by omega)]
  have fcm : ∀ {I' : Nat → Nat → Int32} {J' : Nat → Nat → Int64} {q : Nat}, YF q I J I' J' → RFC I' J' fo (bfp B f) (bfn B f) := fun F => (hFC.mvI (F.1 _ (by omega)) (F.1 _ (by omega))).mv (F.2.2.1 _ (by omega) (by omega) (by omega))
  refine b_ck hM.1 (b_eq (t_isSign (c := 40) hM Y1.1.2.1) ?_)
  by_cases c1 : isG b n t 40 = true
  · have k3 := isG_k c1
    have e0 : at0 b n (bfp B f) (bfn B f) f B N (dp t H) t H = dp t H := at0_dp (by omega) (by omega) (isW_no (by omega)) (isW_no (by omega))
    rw [c1]
    refine wp_ifn (by decide) (b_getIv hM.1 st2_at (b_putI hM.1 (by decide) ?_))
    rw [zn_pred1 (by omega), Nat.add_sub_cancel]
    refine b_ck hM.1 (wp_bd (t_deeper hS Y2 (by omega) hdd (fun hd8 I3 F3 o1 o2 o3 => ?_) (fun hd8 I3 J3 F3 Y3 o15 => ?_)))
    · refine b_getIv hM.1 o1 (wp_ifn (by decide) (y_j56o hM o1 (fun v => qe 5 t _ _ _ ?_ (F2.trans (F3.trans (YF.i (by omega)))) (by rw [st2_nk (by decide)]; exact o1) (by rw [st2_nk (by decide)]; exact o2) (by rw [st2_nk (by decide)]; exact o3))))
      show at0 b n (bfp B f) (bfn B f) f B N (dp t H) t H = _
      rw [e0, h8 hd8 t H]; unfold dp0; rw [c1]; rfl
    · have e1 : at0 b n (bfp B f) (bfn B f) f B N (dp t H) t H = (match suF b n (prF b n (bfn B f) at') (t + 1) H with
        | Sum.inl e => Sum.inl e
        | Sum.inr q => if isG b n q.2.2 41 = true then Sum.inr (q.1, q.2.1, q.2.2 + 1) else Sum.inl (1, q.2.2)) := by rw [e0, hs hd8 t H]; unfold dpS; rw [if_pos c1]; rfl
      refine b_getI hM.1 (wp_ifp Y3.1.2.2 (b_ck hM.1 (wp_bd (hSu hd8 (t + 1) H r I3 J3 _ hr Y3 (fun k s I4 J4 v g4 F4 o1 o2 o3 => ?_) (fun y H4 t4 I4 J4 g4 F4 Y4 e15 v4 => ?_)))))
      · refine y_j56o hM o1 (fun v' => qe k s _ J4 _ ?_ (F2.trans (F3.trans (F4.trans (YF.i (by omega))))) (by rw [st2_nk (by decide)]; exact o1) (by rw [st2_nk (by decide)]; exact o2) (by rw [st2_nk (by decide)]; exact o3))
        show at0 b n (bfp B f) (bfn B f) f B N (dp t H) t H = _
        rw [e1, g4]
      · rw [g4] at e1
        dsimp only at e1
        unfold f_X13_readAtom_j56
        refine b_ck hM.1 (wp_bd (t_needsSign (c := 41) hM Y4.1.1 Y4.1.2.1 Y4.1.2.2 (fun g5 I5 J5 f5 r5 s5 => ?_) (fun g5 => ?_)))
        · rw [if_pos g5] at e1
          have Y5 := Y4.rf hS f5 r5 s5
          refine b_getIv hM.1 Y5.2.2.2.1 (b_putI hM.1 (by decide) (wp_rt ?_))
          rw [zn_pred1 (by omega), Nat.add_sub_cancel]
          refine qs y H4 (t4 + 1) _ J5 e1 (F2.trans (F3.trans (F4.trans (f5.rw'.yf.trans (YF.i (by omega)))))) (Y5.mv hS (q := 0) (YF.i (by omega)) (Y5.1.2.1.k (by omega)) (by rw [st2_nk (by omega)]; exact Y5.1.2.2) (by rw [st2_nk (by omega)]; exact Y5.2.2.1) st2_at (by rw [st2_nk (by omega)]; exact Y5.2.2.2.2)) ?_ (fun hH j hj => ?_)
          · rw [st2_nk (by omega), f5.2.1 15 (by omega), e15, o15]; exact z15
          · show J5 225 (r * 12 + j) = _
            rw [f5.2.2.1 225 (by decide)]
            exact v4 hH j hj
        · rw [if_neg (by rw [g5]; decide)] at e1
          exact b_getI hM.1 (b_putI hM.1 (by decide) (wp_rt (qe 1 t4 _ J4 _ e1 (F2.trans (F3.trans (F4.trans (RW.over.yf.trans (YF.i (by omega)))))) (by rw [st2_nk (by decide)]; exact over_11) (by rw [st2_nk (by decide)]; exact over_15) (by rw [st2_nk (by decide)]; exact over_16))))
  rw [Bool.eq_false_iff.mpr c1]
  refine wp_ifp rfl (b_ck hM.1 (b_eq (t_isWord (i := 11) hM hSK (by decide) Y1.1.2.1) ?_))
  by_cases c2 : isW b n t 11 = true
  · have k4 := isW_k c2
    have e0 : at0 b n (bfp B f) (bfn B f) f B N (dp t H) t H = dp t H := at0_dp (by omega) (by omega) (isW_at c2 (by decide) (by decide) (by decide)) (isW_at c2 (by decide) (by decide) (by decide))
    have c12 : isW b n t 12 = false := isW_at c2 (by decide) (by decide) (by decide)
    rw [c2]
    refine wp_ifn (by decide) (b_getIv hM.1 st2_at (b_putI hM.1 (by decide) ?_))
    rw [zn_pred1 (by omega), Nat.add_sub_cancel]
    refine b_ck hM.1 (wp_bd (t_deeper hS Y2 (by omega) hdd (fun hd8 I3 F3 o1 o2 o3 => ?_) (fun hd8 I3 J3 F3 Y3 o15 => ?_)))
    · refine b_getIv hRF.1 (fcm (F2.trans F3)).1.2.1 (b_ck hM.1 (wp_bd (hO I3 J _ _ o1 (fun v => wp_rt (qe 5 t _ _ _ ?_ (F2.trans F3) o1 o2 o3)))))
      show at0 b n (bfp B f) (bfn B f) f B N (dp t H) t H = _
      rw [e0, h8 hd8 t H]; unfold dp0; rw [c2, Bool.or_true]; rfl
    · refine b_getIv hRF.1 (fcm (F2.trans F3)).1.2.1 ?_
      rw [zn_pred1 (by omega)]
      have e1 : at0 b n (bfp B f) (bfn B f) f B N (dp t H) t H = tnR (bfn B f) (bfn B f - 1) (at' (t + 1) H) := by rw [e0, hs hd8 t H]; unfold dpS; rw [if_neg c1, c12, if_neg (by decide), if_pos c2]
      exact b_ck hM.1 (wp_bd (hT hd8 (t + 1) H r (bfn B f - 1) I3 J3 _ hr (by omega) Y3 (fun k s I4 J4 v g4 F4 o1 o2 o3 => wp_rt (qe k s I4 J4 v (e1.trans g4) (F2.trans (F3.trans F4)) o1 o2 o3)) (fun y H4 t4 I4 J4 g4 F4 Y4 e15 v4 => wp_rt (qs y H4 t4 I4 J4 (e1.trans g4) (F2.trans (F3.trans F4)) Y4 (by rw [e15, o15]; exact z15) v4))))
  rw [Bool.eq_false_iff.mpr c2]
  refine wp_ifp rfl (b_ck hM.1 (b_eq (t_isWord (i := 12) hM hSK (by decide) Y1.1.2.1) ?_))
  by_cases c3 : isW b n t 12 = true
  · have k4 := isW_k c3
    have e0 : at0 b n (bfp B f) (bfn B f) f B N (dp t H) t H = dp t H := at0_dp (by omega) (by omega) (isW_at c3 (by decide) (by decide) (by decide)) (isW_at c3 (by decide) (by decide) (by decide))
    rw [c3]
    refine wp_ifn (by decide) (b_getIv hM.1 st2_at (b_putI hM.1 (by decide) ?_))
    rw [zn_pred1 (by omega), Nat.add_sub_cancel]
    -- once it is over
    have ov : ∀ {I3 : Nat → Nat → Int32} {J3 : Nat → Nat → Int64} {w : Nat}, w < 1000 → I3 224 11 = 5 → YF r I J I3 J3 → (∀ v, Q v (K, I3, J3, A)) → wp (mBd (mCk 10 (some fo) (f_X12_isUnit (some fo) (zn w))) (fun r21 => (if ¬ r21 = 0 then mBd (mCk 11 (some 224) (f_X13_goesOn (some 224))) (fun _ => mBd (mCk 11 (some 224) (gT (some 224) (some fo) (zn f) (zn w))) (fun r22 => mRt r22)) else mBd (mCk 11 (some 224) (f_X13_wrong (some 224) (4 : Int32))) (fun _ => mBd (mCk 11 (some 224) (f_X13_goesOn (some 224))) (fun _ => mBd (mCk 11 (some 224) (gT (some 224) (some fo) (zn f) (zn w))) (fun r23 => mRt r23)))))) Q (K, I3, J3, A) := by
      intro I3 J3 w hw o1 F q
      refine b_ck hRF.1 ?_
      rw [zn_zi w]
      refine b_eq (t_isUnit hRF (fcm F) hpn (by omega)) ?_
      cases hu : unit (bfn B f) (w : Int) with
      | true => exact wp_ifp (by decide) (b_ck hM.1 (b_eq (o_goesOn hM o1) (b_ck hM.1 (wp_bd (hO I3 J3 _ _ o1 (fun v => wp_rt (q v)))))))
      | false => exact wp_ifn (by decide) (b_ck hM.1 (b_eq (o_wrong hM o1) (b_ck hM.1 (b_eq (o_goesOn hM o1) (b_ck hM.1 (wp_bd (hO I3 J3 _ _ o1 (fun v => wp_rt (q v)))))))))
    refine b_ck hM.1 (wp_bd (t_deeper hS Y2 (by omega) hdd (fun hd8 I3 F3 o1 o2 o3 => ?_) (fun hd8 I3 J3 F3 Y3 o15 => ?_)))
    · refine b_getIv hRF.1 (fcm (F2.trans F3)).1.2.1 (b_ck hM.1 (b_eq (o_bounded hM o1) (ov (w := 1) (by omega) o1 (F2.trans F3) (fun v => qe 5 t _ _ _ ?_ (F2.trans F3) o1 o2 o3))))
      show at0 b n (bfp B f) (bfn B f) f B N (dp t H) t H = _
      rw [e0, h8 hd8 t H]; unfold dp0; rw [c3, Bool.or_true]; rfl
    · refine b_getIv hRF.1 (fcm (F2.trans F3)).1.2.1 ?_
      rw [zn_pred1 (by omega)]
      have e1 : at0 b n (bfp B f) (bfn B f) f B N (dp t H) t H = (if kd' kwC b n (t + 1) ≠ 2 then Sum.inl (1, t + 1) else if unt (bfn B f) (whN b n (t + 1)) = false then Sum.inl (4, t + 1) else tnR (bfn B f) (whN b n (t + 1)) (at' (t + 2) H)) := by rw [e0, hs hd8 t H]; unfold dpS; rw [if_neg c1, if_pos c3]
      refine b_ck hM.1 (wp_bd (t_bounded (lo := 1) (hi := bfn B f - 1) hM Y3.1.2.1 Y3.1.2.2 (by omega) (by omega) (fun g1 g2 g3 => ?_) (fun g1 g2 => ?_) (fun g1 => ?_)))
      · have hw := (wh_ok g1).2
        refine b_ck hRF.1 ?_
        rw [zn_zi (whN b n (t + 1))]
        refine b_eq (t_isUnit hRF (fcm (F2.trans F3)) hpn (by omega)) ?_
        rw [← zn_zi (whN b n (t + 1))]
        cases hu : unit (bfn B f) (whN b n (t + 1) : Int) with
        | true =>
          rw [if_neg (fun q => q g1), if_neg (by show ¬ unit (bfn B f) (whN b n (t + 1) : Int) = false; rw [hu]; decide)] at e1
          refine wp_ifp (by decide) (b_ck hM.1 (wp_bd (t_next hM Y3.1.1 Y3.1.2.1 Y3.1.2.2 (by omega) (fun I4 J4 f4 r4 s4 => ?_))))
          have Y4 := Y3.rf hS f4 r4 s4
          exact b_ck hM.1 (wp_bd (hT hd8 (t + 2) H r (whN b n (t + 1)) I4 J4 _ hr (by omega) Y4 (fun k s I5 J5 v g5 F5 o1 o2 o3 => wp_rt (qe k s I5 J5 v (e1.trans g5) (F2.trans (F3.trans (f4.rw'.yf.trans F5))) o1 o2 o3)) (fun y H5 t5 I5 J5 g5 F5 Y5 e15 v5 => wp_rt (qs y H5 t5 I5 J5 (e1.trans g5) (F2.trans (F3.trans (f4.rw'.yf.trans F5))) Y5 (by rw [e15, f4.2.1 15 (by omega), o15]; exact z15) v5))))
        | false =>
          rw [if_neg (fun q => q g1), if_pos (show unt (bfn B f) (whN b n (t + 1)) = false from hu)] at e1
          exact wp_ifn (by decide) (b_ck hM.1 (b_eq (t_wrong (k := 4) hM Y3.1.2.1 Y3.1.2.2) (b_ck hM.1 (b_eq (o_goesOn hM over_11) (b_ck hM.1 (wp_bd (hO _ J3 _ _ over_11 (fun v => wp_rt (qe 4 (t + 1) _ J3 v e1 (F2.trans (F3.trans RW.over.yf)) over_11 over_15 over_16)))))))))
      · rw [if_neg (fun q => q g1), if_pos (unit_out g2)] at e1
        exact ov (w := 1) (by omega) over_11 (F2.trans (F3.trans RW.over.yf)) (fun v => qe 4 (t + 1) _ J3 v e1 (F2.trans (F3.trans RW.over.yf)) over_11 over_15 over_16)
      · rw [if_pos g1] at e1
        exact ov (w := 1) (by omega) over_11 (F2.trans (F3.trans RW.over.yf)) (fun v => qe 1 (t + 1) _ J3 v e1 (F2.trans (F3.trans RW.over.yf)) over_11 over_15 over_16)
  rw [Bool.eq_false_iff.mpr c3]
  have z15' : (st2 I 224 18 (zn (r + 1))) 224 15 = I 224 15 := st2_nk (by omega)
  have edp : dp t H = Sum.inl (1, t) := by
    by_cases hd8 : dd = 8
    · rw [h8 hd8 t H]; unfold dp0; rw [Bool.eq_false_iff.mpr c1, Bool.eq_false_iff.mpr c2, Bool.eq_false_iff.mpr c3]; rfl
    · rw [hs (by omega) t H]; unfold dpS; rw [if_neg c1, if_neg c3, if_neg c2]
  refine wp_ifp rfl (b_ck hM.1 (wp_bd (t_eatsWord (i := 9) hM hSK Y1.1.1 Y1.1.2.1 Y1.1.2.2 (by decide) (fun g1 I3 J3 f3 r3 s3 => ?_) (fun g1 => ?_))))
  · have k4 := isW_k g1
    have e1 : at0 b n (bfp B f) (bfn B f) f B N (dp t H) t H = (if kd' kwC b n (t + 1) ≠ 2 then Sum.inl (1, t + 1) else if inR b n (t + 1) 0 99 = false then Sum.inl (4, t + 1) else Sum.inr (zpw (bfn B f) (whN b n (t + 1)), H, t + 2)) := by
      unfold at0; rw [if_neg (by omega), if_neg (by omega), if_pos g1]
    have Y3 := Y1.rf hS f3 r3 s3
    have F3 : YF r I J I3 J3 := F1.trans f3.rw'.yf
    -- a power is laid, whatever comes
    have zl : ∀ {I4 : Nat → Nat → Int32} {J4 : Nat → Nat → Int64} {e : Nat}, e < 1000 → YF r I J I4 J4 → (∀ J5, rfr 224 r J4 J5 → (∀ k, k < 12 → rv J5 224 r k = zpw (bfn B f) e k) → Q (zn r) (K, I4, J5, A)) → wp (mBd (mCk 11 (some 224) (f_X13_clearWide (some 224))) (fun _ => mBd (mGetA 11 6 (some 224)) (fun r16 => mBd (mGetI 10 1 (some fo)) (fun r17 => mRq (¬ r17 = 0) (mBd (mStJ r16 (irem (zn e) r17) (1 : Int64)) (fun _ => mBd (mCk 11 (some 224) (f_X13_settles (some 224) (some fo) (zn r))) (fun _ => mRt (zn r)))))))) Q (K, I4, J4, A) := by
      intro I4 J4 e he F q
      have hm := Nat.mod_lt e (show bfn B f > 0 by omega)
      refine b_ck hM.1 (wp_bd (t_clearWide hM (fun J5 f5 v5 => b_getA hM.1 hM.2.1.2.1 (b_getIv hRF.1 (fcm F).1.2.1 (wp_rq (by rw [zn0 (by omega)]; omega) ?_)))))
      rw [irem_zn (by omega) (by omega)]
      refine b_stJ hM.2.2.1.2.1 (by omega) (by omega) (by omega) (b_ck hM.1 (wp_bd ?_))
      have v6 : ∀ i, i < 12 → st2 J5 226 (e % bfn B f) 1 (224 + 2) i = adw wz (e % bfn B f) 1 i := fun i hi => by
        unfold adw setf
        by_cases h : i = e % bfn B f
        · rw [if_pos h, h, st2_at]; unfold wz; decide
        · rw [if_neg h, st2_nk h]; exact v5 i hi
      have hFC5 : RFC I4 (st2 J5 226 (e % bfn B f) 1) fo (bfp B f) (bfn B f) := (fcm F).mv (by rw [st2_nb (by omega), f5 _ (by omega)])
      refine t_settles (m := 224) hM hRF hFC5 (by omega) (by omega) ⟨hm1, hm2⟩ (by omega) v6 (wz_low.adw hm _) (fun J6 f6 v6' => wp_rt (q J6 ⟨fun x h1 h2 => ?_, fun j hj => ?_⟩ v6'))
      · rw [f6.1 x h1 h2, st2_nb (by omega), f5 x (by omega)]
      · rw [f6.2 j hj, st2_nb (by omega), f5 _ (by omega)]
    refine wp_ifn (by decide) (b_ck hM.1 (wp_bd (t_readWhole (lo := 0) (hi := 99) hM Y3.1.1 Y3.1.2.1 Y3.1.2.2 (by omega) (by omega) (fun g2 g3 g4 I4 J4 f4 r4 s4 => ?_) (fun g2 g3 => ?_) (fun g2 => ?_))))
    · have hin : inR b n (t + 1) 0 99 = true := by
        have g4' : whN b n (t + 1) ≤ 99 := g4
        have g2' : kd' kwC b n (t + 1) = 2 := g2
        unfold inR
        rw [g2', show (decide (0 ≤ whN b n (t + 1)) && decide (whN b n (t + 1) ≤ 99)) = true from by simp; omega]; rfl
      rw [if_neg (fun q => q g2), hin, if_neg (by decide)] at e1
      have g4' : whN b n (t + 1) ≤ 99 := g4
      have Y4 := Y3.rf hS f4 r4 s4
      refine zl (e := whN b n (t + 1)) (by omega) (F3.trans f4.rw'.yf) (fun J5 f5 v5 => qs _ H (t + 2) I4 J5 e1 (F3.trans (f4.rw'.yf.trans (YF.jj f5 (by omega)))) (Y4.mv hS (q := r) (YF.jj f5 (by omega)) (Y4.1.2.1.jj (by rw [f5.1 224 (by decide) (by decide)])) Y4.1.2.2 Y4.2.2.1 Y4.2.2.2.1 Y4.2.2.2.2) ?_ (fun _ => v5))
      rw [f4.2.1 15 (by omega), f3.2.1 15 (by omega)]; exact z15'
    · have hin : inR b n (t + 1) 0 99 = false := by
        have g3' : ¬ (0 ≤ whN b n (t + 1) ∧ whN b n (t + 1) ≤ 99) := g3
        unfold inR
        rw [show (decide (0 ≤ whN b n (t + 1)) && decide (whN b n (t + 1) ≤ 99)) = false from by simp; omega, Bool.and_false]
      rw [if_neg (fun q => q g2), if_pos hin] at e1
      exact zl (e := 0) (by omega) (F3.trans RW.over.yf) (fun J5 f5 v5 => qe 4 (t + 1) _ J5 _ e1 (F3.trans (RW.over.yf.trans (YF.jj f5 (by omega)))) over_11 over_15 over_16)
    · rw [if_pos g2] at e1
      exact zl (e := 0) (by omega) (F3.trans RW.over.yf) (fun J5 f5 v5 => qe 1 (t + 1) _ J5 _ e1 (F3.trans (RW.over.yf.trans (YF.jj f5 (by omega)))) over_11 over_15 over_16)
  refine wp_ifp rfl (b_ck hM.1 (wp_bd (t_eatsWord (i := 10) hM hSK Y1.1.1 Y1.1.2.1 Y1.1.2.2 (by decide) (fun g2 I3 J3 f3 r3 s3 => ?_) (fun g2 => ?_))))
  · have k4 := isW_k g2
    have e1 : at0 b n (bfp B f) (bfn B f) f B N (dp t H) t H = (if kd' kwC b n (t + 1) ≠ 2 then Sum.inl (1, t + 1) else if inR b n (t + 1) 0 (bfn B f - 1) = false then Sum.inl (4, t + 1)
      else if isG b n (t + 2) 44 = false then Sum.inl (1, t + 2)
      else if kd' kwC b n (t + 3) ≠ 2 then Sum.inl (1, t + 3) else if inR b n (t + 3) 0 (bfn B f - 1) = false then Sum.inl (4, t + 3)
      else Sum.inr (jac (bfp B f) (bfn B f) (whN b n (t + 1)) (whN b n (t + 3)), H, t + 4)) := by
      unfold at0; rw [if_neg (by omega), if_neg (by omega), if_neg (by rw [g1]; decide), if_pos g2]
    have Y3 := Y1.rf hS f3 r3 s3
    have F3 : YF r I J I3 J3 := F1.trans f3.rw'.yf
    have inF : ∀ {s : Nat}, ¬ (0 ≤ whN b n s ∧ whN b n s ≤ bfn B f - 1) → inR b n s 0 (bfn B f - 1) = false := fun {s} g => by
      unfold inR
      rw [show (decide (0 ≤ whN b n s) && decide (whN b n s ≤ bfn B f - 1)) = false from by simp; omega, Bool.and_false]
    have inT : ∀ {s : Nat}, kd' kwC b n s = 2 → whN b n s ≤ bfn B f - 1 → inR b n s 0 (bfn B f - 1) = true := fun {s} gk g => by
      unfold inR
      rw [gk, show (decide (0 ≤ whN b n s) && decide (whN b n s ≤ bfn B f - 1)) = true from by simp; omega]; rfl
    -- once it is over
    have ov1 : ∀ {I4 : Nat → Nat → Int32} {J4 : Nat → Nat → Int64} {r11 : Int32}, I4 224 11 = 5 → YF r I J I4 J4 → Q (zn r) (K, I4, J4, A) → wp (mBd (mCk 11 (some 224) (f_X13_needsSign (some 224) (44 : Int32))) (fun _ => mBd (mGetI 10 1 (some fo)) (fun r12 => mBd (mCk 11 (some 224) (f_X13_readWhole (some 224) (0 : Int32) (r12 - (1 : Int32)))) (fun r13 => mBd (mGetI 11 11 (some 224)) (fun r14 => (if r14 = (5 : Int32) then mRt (zn r) else mBd (mCk 11 (some 224) (f_X13_jacobiRow (some 224) (some fo) r11 r13 (zn r))) (fun _ => mRt (zn r)))))))) Q (K, I4, J4, A) := by
      intro I4 J4 r11 o1 F q
      exact b_ck hM.1 (b_eq (o_needsSign hM o1) (b_getIv hRF.1 (fcm F).1.2.1 (b_ck hM.1 (b_eq (o_readWhole hM o1) (b_getIv hM.1 o1 (wp_ifp rfl (wp_rt q)))))))
    refine wp_ifn (by decide) (b_getIv hRF.1 (fcm F3).1.2.1 ?_)
    rw [zn_pred1 (by omega)]
    refine b_ck hM.1 (wp_bd (t_readWhole (lo := 0) (hi := bfn B f - 1) hM Y3.1.1 Y3.1.2.1 Y3.1.2.2 (by omega) (by omega) (fun g3 g4 g5 I4 J4 f4 r4 s4 => ?_) (fun g3 g4 => ?_) (fun g3 => ?_)))
    rotate_left
    · rw [if_neg (fun q => q g3), if_pos (inF g4)] at e1
      exact ov1 over_11 (F3.trans RW.over.yf) (qe 4 (t + 1) _ J3 _ e1 (F3.trans RW.over.yf) over_11 over_15 over_16)
    · rw [if_pos g3] at e1
      exact ov1 over_11 (F3.trans RW.over.yf) (qe 1 (t + 1) _ J3 _ e1 (F3.trans RW.over.yf) over_11 over_15 over_16)
    rw [if_neg (fun q => q g3), inT g3 g5, if_neg (by decide)] at e1
    have g5' : whN b n (t + 1) ≤ bfn B f - 1 := g5
    have Y4 := Y3.rf hS f4 r4 s4
    have F4 : YF r I J I4 J4 := F3.trans f4.rw'.yf
    refine b_ck hM.1 (wp_bd (t_needsSign (c := 44) hM Y4.1.1 Y4.1.2.1 Y4.1.2.2 (fun g6 I5 J5 f5 r5 s5 => ?_) (fun g6 => ?_)))
    rotate_left
    · rw [if_pos g6] at e1
      exact b_getIv hRF.1 (fcm (F4.trans RW.over.yf)).1.2.1 (b_ck hM.1 (b_eq (o_readWhole hM over_11) (b_getIv hM.1 over_11 (wp_ifp rfl (wp_rt (qe 1 (t + 2) _ J4 _ e1 (F4.trans RW.over.yf) over_11 over_15 over_16))))))
    rw [if_neg (by rw [g6]; decide)] at e1
    have Y5 := Y4.rf hS f5 r5 s5
    have F5 : YF r I J I5 J5 := F4.trans f5.rw'.yf
    refine b_getIv hRF.1 (fcm F5).1.2.1 ?_
    rw [zn_pred1 (by omega)]
    refine b_ck hM.1 (wp_bd (t_readWhole (lo := 0) (hi := bfn B f - 1) hM Y5.1.1 Y5.1.2.1 Y5.1.2.2 (by omega) (by omega) (fun g7 g8 g9 I6 J6 f6 r6 s6 => ?_) (fun g7 g8 => ?_) (fun g7 => ?_)))
    rotate_left
    · rw [if_neg (fun q => q g7), if_pos (inF g8)] at e1
      exact b_getIv hM.1 over_11 (wp_ifp rfl (wp_rt (qe 4 (t + 3) _ J5 _ e1 (F5.trans RW.over.yf) over_11 over_15 over_16)))
    · rw [if_pos g7] at e1
      exact b_getIv hM.1 over_11 (wp_ifp rfl (wp_rt (qe 1 (t + 3) _ J5 _ e1 (F5.trans RW.over.yf) over_11 over_15 over_16)))
    rw [if_neg (fun q => q g7), inT g7 g9, if_neg (by decide)] at e1
    have g9' : whN b n (t + 3) ≤ bfn B f - 1 := g9
    have Y6 := Y5.rf hS f6 r6 s6
    have F6 : YF r I J I6 J6 := F5.trans f6.rw'.yf
    refine b_getI hM.1 (wp_ifn s6 (b_ck hM.1 (wp_bd (t_jacobiRow (m := 224) hM hRF (fcm F6) (by omega) (by omega) hpn (by omega) (show whN b n (t + 3) < 1000 by omega) (by omega) (fun J7 f7 v7 => wp_rt (qs _ H (t + 4) I6 J7 e1 (F6.trans (YF.jj f7 (by omega))) (Y6.mv hS (q := r) (YF.jj f7 (by omega)) (Y6.1.2.1.jj (by rw [f7.1 224 (by decide) (by decide)])) Y6.1.2.2 Y6.2.2.1 Y6.2.2.2.1 Y6.2.2.2.2) ?_ (fun _ => v7)))))))
    rw [f6.2.1 15 (by omega), f5.2.1 15 (by omega), f4.2.1 15 (by omega), f3.2.1 15 (by omega)]; exact z15'
  refine wp_ifp rfl ?_
  by_cases k2 : kd' kwC b n t = 2
  · have e1 : at0 b n (bfp B f) (bfn B f) f B N (dp t H) t H = Sum.inr (wu (zn (whN b n t)).toInt64, H, t + 1) := by unfold at0; rw [if_pos k2]
    have h3 := (Y1.1.2.1.wh.1 k2).1
    have hw := (wh_ok k2).2
    refine b_getIv hM.1 h3 (wp_ifn (by decide) (b_ck hM.1 (wp_bd (t_readWhole (lo := 0) (hi := 999) hM Y1.1.1 Y1.1.2.1 Y1.1.2.2 (by omega) (by omega) (fun g3 g4 g5 I4 J4 f4 r4 s4 => ?_) (fun g3 g4 => absurd ⟨Nat.zero_le _, hw⟩ g4) (fun g3 => absurd k2 g3)))))
    have Y4 := Y1.rf hS f4 r4 s4
    refine b_ck hM.1 (wp_bd (t_wholeRow (m := 224) hM (by omega) (fun J7 f7 v7 => wp_rt (qs _ H (t + 1) I4 J7 e1 (F1.trans (f4.rw'.yf.trans (YF.jj f7 (by omega)))) (Y4.mv hS (q := r) (YF.jj f7 (by omega)) (Y4.1.2.1.jj (by rw [f7.1 224 (by decide) (by decide)])) Y4.1.2.2 Y4.2.2.1 Y4.2.2.2.1 Y4.2.2.2.2) ?_ (fun _ => v7)))))
    rw [f4.2.1 15 (by omega)]; exact z15'
  · have h3 := Y1.1.2.1.wh.2 k2
    refine b_getI hM.1 (wp_ifp h3 (b_ck hM.1 (wp_bd (y_named hS Y1 (by omega) (fun k5 => ?_) (fun k5 hno => ?_) (fun k5 l hl hlb I4 J4 F4 Y4 e15 v4 => ?_)))))
    · refine wp_rt (qe 1 t _ J _ ?_ (F1.trans RW.over.yf) over_11 over_15 over_16)
      show at0 b n (bfp B f) (bfn B f) f B N (dp t H) t H = _
      rw [at0_dp k2 k5 g1 g2]; exact edp
    · refine wp_rt (qe 2 t _ J _ ?_ (F1.trans RW.over.yf) over_11 over_15 over_16)
      show at0 b n (bfp B f) (bfn B f) f B N (dp t H) t H = _
      unfold at0
      rw [if_neg k2, if_pos k5]
      cases hfn : fnN N (vl kwC b n t) 2 with
      | none => rfl
      | some l => exact if_neg (hno l hfn)
    · refine wp_rt (qs (blr B l) H (t + 1) I4 J4 ?_ (F1.trans F4) Y4 (e15.trans z15') (fun _ => v4))
      show at0 b n (bfp B f) (bfn B f) f B N (dp t H) t H = _
      unfold at0
      rw [if_neg k2, if_pos k5, hl]
      exact if_pos hlb
/-- the reference reads an atom at depth 8 - k -/
theorem YC.sp {s1 s2 : Nat → Bool → EX} {g : Option Nat → Option Nat → Int32 → Mo Int32} (h : YC K A rb b n B N f fo dd R s1 g) (hs : ∀ t H, s1 t H = s2 t H) : YC K A rb b n B N f fo dd R s2 g :=
  fun t H r I J Q hr hI qe qs => h t H r I J Q hr hI (fun k s I' J' v x => qe k s I' J' v (by rw [← hs]; exact x)) (fun y H' t' I' J' x => qs y H' t' I' J' (by rw [← hs]; exact x))
theorem y_atoms (hS : YS K A rb B N f fo) (hn : n ≤ 900) : ∀ k, k ≤ 8 → ∀ G, 3 * k + 2 ≤ G → YC K A rb b n B N f fo (8 - k) (2 * (8 - k) + 2) (fun t H => atX b n (bfp B f) (bfn B f) f B N k t H) (grB G).2.2.1 := by
  intro k
  have hk := hS.2.2.2.2.2.1
  have hpn := hk.1.1.2 f hS.2.2.2.2.2.2.1
  obtain ⟨_, _, hm1, hm2⟩ := pn_rng hpn
  induction k with
  | zero =>
    intro _ G hG
    obtain ⟨g, rfl⟩ : ∃ g, G = g + 2 := ⟨G - 2, by omega⟩
    exact (y_atom (dd := 8) (at' := fun _ _ => Sum.inl (0, 0)) (dp := fun t _ => dp0 b n t) (gS := (grB (g + 1)).1) (gP := (grB (g + 1)).2.1) (gA := (grB (g + 1)).2.2.1) (gT := (grB (g + 1)).2.2.2) (by omega) hS hn (o_turns (gS := (grB g).1) (gP := (grB g).2.1) (gA := (grB g).2.2.1) (gT := (grB g).2.2.2) hS.1) (fun _ _ _ => rfl) (fun h => absurd h (by omega)) (fun h => absurd h (by omega)) (fun h => absurd h (by omega)))
  | succ k ih =>
    intro hk8 G hG
    obtain ⟨g, rfl⟩ : ∃ g, G = g + 4 := ⟨G - 4, by omega⟩
    have e8 : 8 - (k + 1) + 1 = 8 - k := by omega
    have hT' := atX_tame (b := b) (f := f) hn hpn hk.1 hk.2.2 k
    have hat := ih (by omega) (g + 2) (by omega)
    have hat0 := ih (by omega) (g + 1) (by omega)
    have hsum : YC K A rb b n B N f fo (8 - k) (2 * (8 - k)) (suF b n (prF b n (bfn B f) (fun t H => atX b n (bfp B f) (bfn B f) f B N k t H))) (grB (g + 3)).1 :=
      y_sum (gS := (grB (g + 2)).1) (gP := (grB (g + 2)).2.1) (gA := (grB (g + 2)).2.2.1) (gT := (grB (g + 2)).2.2.2) (by omega) hS (prF_tame hn ⟨hm1, hm2⟩ hT') hn (y_prod (gS := (grB (g + 1)).1) (gP := (grB (g + 1)).2.1) (gA := (grB (g + 1)).2.2.1) (gT := (grB (g + 1)).2.2.2) (by omega) hS hT' hn hat0)
    exact (y_atom (dd := 8 - (k + 1)) (at' := fun t H => atX b n (bfp B f) (bfn B f) f B N k t H) (dp := dpS b n (bfn B f) (fun t H => atX b n (bfp B f) (bfn B f) f B N k t H)) (gS := (grB (g + 3)).1) (gP := (grB (g + 3)).2.1) (gA := (grB (g + 3)).2.2.1) (gT := (grB (g + 3)).2.2.2) (by omega) hS hn (o_turns (gS := (grB (g + 2)).1) (gP := (grB (g + 2)).2.1) (gA := (grB (g + 2)).2.2.1) (gT := (grB (g + 2)).2.2.2) hS.1) (fun h => absurd h (by omega)) (fun _ _ _ => rfl) (fun _ => y_turns (gS := (grB (g + 2)).1) (gP := (grB (g + 2)).2.1) (gA := (grB (g + 2)).2.2.1) (gT := (grB (g + 2)).2.2.2) (by omega) hS hT' (by
      rw [e8]
      intro t H r I J Q hr
      exact hat t H r I J Q (by omega))) (fun _ => by
      rw [e8]
      intro t H r I J Q hr
      exact hsum t H r I J Q (by omega)))
theorem y_sum0 (hS : YS K A rb B N f fo) (hn : n ≤ 900) : YC K A rb b n B N f fo 0 0 (suX b n (bfp B f) (bfn B f) f B N) (f_X13_readSum 60) := by
  have hk := hS.2.2.2.2.2.1
  have hpn := hk.1.1.2 f hS.2.2.2.2.2.2.1
  obtain ⟨_, _, hm1, hm2⟩ := pn_rng hpn
  have hT' := atX_tame (b := b) (f := f) hn hpn hk.1 hk.2.2 8
  have hat := y_atoms (b := b) hS hn 8 (by omega) 58 (by omega)
  exact y_sum (gS := (grB 59).1) (gP := (grB 59).2.1) (gA := (grB 59).2.2.1) (gT := (grB 59).2.2.2) (by omega) hS (prF_tame hn ⟨hm1, hm2⟩ hT') hn (y_prod (gS := (grB 58).1) (gP := (grB 58).2.1) (gA := (grB 58).2.2.1) (gT := (grB 58).2.2.2) (by omega) hS hT' hn hat)
end
