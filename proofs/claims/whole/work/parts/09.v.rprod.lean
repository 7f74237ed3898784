/-! ===== expressions: the reference's products, sums ===== -/
section
variable {β : Type} {kw : Nat → Int64} {K : List (Nat × Nat)} {I I' : Nat → Nat → Int32} {J J' : Nat → Nat → Int64} {A : Nat → Nat → Option Nat} {w : WD}
variable {b : Nat → Nat} {n t m p f fo rb r dd R : Nat} {B : BKD} {N : NMD} {at' : Nat → Bool → EX} {H : Bool}
theorem y_prodL {gS gP gA : Option Nat → Option Nat → Int32 → Mo Int32} {gT : Option Nat → Option Nat → Int32 → Int32 → Mo Int32} {Q : Int32 → Hp → Prop} (hR : R + 1 < 47) (hS : YS K A rb B N f fo) (hT : Tame at') (hn : n ≤ 900) (hat : YC K A rb b n B N f fo dd (R + 1) at' gA) (hr : r ≤ R) :
    ∀ k n0 t y H I J, 902 ≤ t + k → t ≤ 900 → k ≤ n0 → (∀ i, 10 ≤ i → y i = 0) → YI K I J A rb b n B N t H (r + 1) dd → (H = false → ∀ j, j < 12 → rv J 224 r j = y j) →
    (∀ kk s I' J' v, prL b n (bfn B f) at' k y H t = Sum.inl (kk, s) → YF r I J I' J' → I' 224 11 = 5 → I' 224 15 = zn kk → I' 224 16 = zn (ps b n s) → Q v (K, I', J', A)) →
    (∀ y' H' t' I' J', prL b n (bfn B f) at' k y H t = Sum.inr (y', H', t') → YF r I J I' J' → YI K I' J' A rb b n B N t' H' (r + 1) dd → I' 224 15 = I 224 15 → (H' = false → ∀ j, j < 12 → rv J' 224 r j = y' j) → Q (zn r) (K, I', J', A)) →
    wp (lq0 (f_X13_readProduct_b7 gS gP gA gT (some 224) (some fo) (zn f) (zn r)) n0) Q (K, I, J, A) := by
  have hS' := hS
  obtain ⟨hM, hSK, h4, hb, hBS, ⟨hk, hkN, hNB⟩, hf, hfo, hRF, hfo2⟩ := hS'
  obtain ⟨_, _, hm1, hm2⟩ := pn_rng (hk.1.2 f hf)
  intro k
  induction k with
  | zero => intro n0 t y H I J h1 h2; omega
  | succ k ih =>
    intro n0 t y H I J htk ht hn0 hy hI hv qe qs
    obtain ⟨n1, rfl⟩ : ∃ n1, n0 = n1 + 1 := ⟨n0 - 1, by omega⟩
    show wp (f_X13_readProduct_b7 gS gP gA gT (some 224) (some fo) (zn f) (zn r) (lq0 (f_X13_readProduct_b7 gS gP gA gT (some 224) (some fo) (zn f) (zn r)) n1)) Q (K, I, J, A)
    unfold f_X13_readProduct_b7
    unfold prL at qe qs
    have hI' := hI
    obtain ⟨⟨hB, hRT, h5⟩, ⟨hC, hN⟩, h18, h19, h20⟩ := hI'
    refine b_getI hM.1 (wp_ifn h5 (b_ck hM.1 (wp_bd (t_eatsSign (c := 42) hM hB hRT h5 (fun g1 I1 J1 f1 r1 s1 => ?_) (fun g1 => ?_)))))
    · rw [if_pos g1] at qe qs
      have Y1 := hI.rf hS f1 r1 s1
      refine wp_ifn (by decide) (b_ck hM.1 (wp_bd (hat (t + 1) H (r + 1) I1 J1 _ (by omega) Y1 (fun kq s I2 J2 v g2 F2 e1 e2 e3 => ?_) (fun q1 H2 t2 I2 J2 g2 F2 Y2 e15 v2 => ?_))))
      · rw [g2] at qe
        exact b_getIv hM.1 e1 (wp_ifn (by decide) (wp_rt (qe kq s I2 J2 _ rfl (f1.rw'.yf.trans (F2.wk (by omega))) e1 e2 e3)))
      rw [g2] at qe qs
      dsimp only at qe qs
      have ht2 := hT _ _ _ _ _ g2
      have hFC := Y2.fld hS
      refine b_getI hM.1 (wp_ifp Y2.1.2.2 (b_ck hM.1 (wp_bd (t_multiplyR (m := 224) hM hRF hFC (by omega) (by omega) ⟨hm1, hm2⟩ (by omega) (by omega) (by omega) (fun J3 f3 v3 => ?_)))))
      have rJ : ∀ j, j < 12 → rv J2 224 r j = rv J 224 r j := fun j hj => by
        show J2 225 (r * 12 + j) = J 225 (r * 12 + j)
        rw [F2.2.2.2.2 _ (by omega), f1.2.2.1 225 (by decide)]
      have F3 : YF r I J I2 J3 := f1.rw'.yf.trans ((F2.wk (by omega)).trans (YF.jj f3 (by omega)))
      have Y3 : YI K I2 J3 A rb b n B N t2 H2 (r + 2) dd := Y2.mv hS (q := r) (YF.jj f3 (by omega)) (Y2.1.2.1.jj (by rw [f3.1 224 (by decide) (by decide)])) Y2.1.2.2 Y2.2.2.1 Y2.2.2.2.1 Y2.2.2.2.2
      refine t_checkTop hS (by omega) Y3 (y := mul (bfn B f) y q1) (mul_hi ⟨hm1, hm2⟩) (fun hH => ?_) (fun I4 J4 F4 Y4 e4 v4 => ?_)
      · intro j hj
        rw [v3 j hj]
        have h0 := (ht2.2.2 hH).2
        have hph := phi_rng hm1 hm2
        rw [mul_congr (x := rv J2 224 r) (x' := y) (y := rv J2 224 (r + 1)) (y' := q1) (fun i hi => by rw [rJ i (by omega)]; exact hv h0 i (by omega)) (fun i hi => v2 hH i (by omega))]
      · exact ih n1 t2 _ _ I4 J4 (by omega) ht2.1.2 (by omega) (mul_hi ⟨hm1, hm2⟩) Y4 v4 (fun kq s I5 J5 v g5 F5 => qe kq s I5 J5 v g5 (F3.trans (F4.trans F5))) (fun y' H' t' I5 J5 g5 F5 Y5 e5 => qs y' H' t' I5 J5 g5 (F3.trans (F4.trans F5)) Y5 (by rw [e5, e4, e15]; exact f1.2.1 15 (by omega)))
    · rw [if_neg (by rw [g1]; decide)] at qs
      exact wp_ifp rfl (wp_rt (qs y H t I J rfl YF.rfl' hI rfl hv))
theorem y_prod {gS gP gA : Option Nat → Option Nat → Int32 → Mo Int32} {gT : Option Nat → Option Nat → Int32 → Int32 → Mo Int32} (hR : R + 1 < 47) (hS : YS K A rb B N f fo) (hT : Tame at') (hn : n ≤ 900) (hat : YC K A rb b n B N f fo dd (R + 1) at' gA) : YC K A rb b n B N f fo dd R (prF b n (bfn B f) at') (fb_X13_readProduct gS gP gA gT) := by
  intro t H r I J Q hr hI qe qs
  have hS' := hS
  obtain ⟨hM, hSK, h4, hb, hBS, ⟨hk, hkN, hNB⟩, hf, hfo, hRF, hfo2⟩ := hS'
  unfold fb_X13_readProduct
  unfold prF at qe qs
  refine b_ck hM.1 (wp_bd (hat t H r I J _ (by omega) hI (fun kq s I2 J2 v g2 F2 e1 e2 e3 => ?_) (fun q1 H2 t2 I2 J2 g2 F2 Y2 e15 v2 => ?_)))
  · rw [g2] at qe
    unfold f_X13_readProduct_l7
    show wp (f_X13_readProduct_b7 gS gP gA gT (some 224) (some fo) (zn f) v (lq0 (f_X13_readProduct_b7 gS gP gA gT (some 224) (some fo) (zn f) v) 999999)) Q (K, I2, J2, A)
    unfold f_X13_readProduct_b7
    exact b_getIv hM.1 e1 (wp_ifp rfl (wp_rt (qe kq s I2 J2 _ rfl F2 e1 e2 e3)))
  · rw [g2] at qe qs
    dsimp only at qe qs
    have ht2 := hT _ _ _ _ _ g2
    unfold f_X13_readProduct_l7
    exact y_prodL hR hS hT hn hat hr 901 fuel t2 q1 H2 I2 J2 (by omega) ht2.1.2 (by unfold fuel; omega) ht2.2.1 Y2 v2 (fun kq s I5 J5 v g5 F5 => qe kq s I5 J5 v g5 (F2.trans F5)) (fun y' H' t' I5 J5 g5 F5 Y5 e5 => qs y' H' t' I5 J5 g5 (F2.trans F5) Y5 (e5.trans e15))
theorem y_sumL {gS gP gA : Option Nat → Option Nat → Int32 → Mo Int32} {gT : Option Nat → Option Nat → Int32 → Int32 → Mo Int32} {pr : Nat → Bool → EX} {Q : Int32 → Hp → Prop} (hR : R + 1 < 47) (hS : YS K A rb B N f fo) (hT : Tame pr) (hn : n ≤ 900) (hat : YC K A rb b n B N f fo dd (R + 1) pr gP) (hr : r ≤ R) :
    ∀ k n0 t y H I J, 902 ≤ t + k → t ≤ 900 → k ≤ n0 → (∀ i, 10 ≤ i → y i = 0) → YI K I J A rb b n B N t H (r + 1) dd → (H = false → ∀ j, j < 12 → rv J 224 r j = y j) →
    (∀ kk s I' J' v, suL b n pr k y H t = Sum.inl (kk, s) → YF r I J I' J' → I' 224 11 = 5 → I' 224 15 = zn kk → I' 224 16 = zn (ps b n s) → Q v (K, I', J', A)) →
    (∀ y' H' t' I' J', suL b n pr k y H t = Sum.inr (y', H', t') → YF r I J I' J' → YI K I' J' A rb b n B N t' H' (r + 1) dd → I' 224 15 = I 224 15 → (H' = false → ∀ j, j < 12 → rv J' 224 r j = y' j) → Q (zn r) (K, I', J', A)) →
    wp (lq0 (f_X13_readSum_b7 gS gP gA gT (some 224) (some fo) (zn f) (zn r)) n0) Q (K, I, J, A) := by
  have hS' := hS
  obtain ⟨hM, hSK, h4, hb, hBS, ⟨hk, hkN, hNB⟩, hf, hfo, hRF, hfo2⟩ := hS'
  intro k
  induction k with
  | zero => intro n0 t y H I J h1 h2; omega
  | succ k ih =>
    intro n0 t y H I J htk ht hn0 hy hI hv qe qs
    obtain ⟨n1, rfl⟩ : ∃ n1, n0 = n1 + 1 := ⟨n0 - 1, by omega⟩
    show wp (f_X13_readSum_b7 gS gP gA gT (some 224) (some fo) (zn f) (zn r) (lq0 (f_X13_readSum_b7 gS gP gA gT (some 224) (some fo) (zn f) (zn r)) n1)) Q (K, I, J, A)
    unfold f_X13_readSum_b7
    unfold suL at qe qs
    have hI' := hI
    obtain ⟨⟨hB, hRT, h5⟩, ⟨hC, hN⟩, h18, h19, h20⟩ := hI'
    have ex : isG b n t 43 = true → isG b n t 45 = false := by
      intro h
      unfold isG at h ⊢
      simp only [Bool.and_eq_true, beq_iff_eq] at h
      rw [h.1, h.2]
      decide
    have main : (isG b n t 45 || isG b n t 43) = true → isG b n t 43 = !(isG b n t 45) → wp (f_X13_readSum_j33 gS gP gA gT (lq0 (f_X13_readSum_b7 gS gP gA gT (some 224) (some fo) (zn f) (zn r)) n1) (some 224) (some fo) (zn f) (zn r)) Q (K, I, J, A) := by
      intro hg hx
      rw [if_pos hg] at qe qs
      have hk3 : kd' kwC b n t = 3 := by
        rcases (Bool.or_eq_true _ _).mp hg with h | h
        · exact isG_k h
        · exact isG_k h
      have fin : ∀ (kc : Int64), (if isG b n t 45 = true then (-1 : Int64) else 1) = kc → wp (f_X13_readSum_j49 gS gP gA gT (lq0 (f_X13_readSum_b7 gS gP gA gT (some 224) (some fo) (zn f) (zn r)) n1) (some 224) (some fo) (zn f) (zn r) kc) Q (K, I, J, A) := by
        intro kc hkc
        unfold f_X13_readSum_j49
        refine b_ck hM.1 (wp_bd (t_next hM hB hRT h5 (by omega) (fun I1 J1 f1 r1 s1 => ?_)))
        have Y1 := hI.rf hS f1 r1 s1
        refine b_ck hM.1 (wp_bd (hat (t + 1) H (r + 1) I1 J1 _ (by omega) Y1 (fun kq s I2 J2 v g2 F2 e1 e2 e3 => ?_) (fun q1 H2 t2 I2 J2 g2 F2 Y2 e15 v2 => ?_)))
        · rw [g2] at qe
          exact b_getIv hM.1 e1 (wp_ifn (by decide) (wp_rt (qe kq s I2 J2 _ rfl (f1.rw'.yf.trans (F2.wk (by omega))) e1 e2 e3)))
        rw [g2] at qe qs
        dsimp only at qe qs
        have ht2 := hT _ _ _ _ _ g2
        refine b_getI hM.1 (wp_ifp Y2.1.2.2 (b_ck hM.1 (wp_bd (t_added (m := 224) hM (by omega) (by omega) (by omega) (fun J3 f3 v3 => ?_)))))
        have rJ : ∀ j, j < 12 → rv J2 224 r j = rv J 224 r j := fun j hj => by
          show J2 225 (r * 12 + j) = J 225 (r * 12 + j)
          rw [F2.2.2.2.2 _ (by omega), f1.2.2.1 225 (by decide)]
        have F3 : YF r I J I2 J3 := f1.rw'.yf.trans ((F2.wk (by omega)).trans (YF.jj f3 (by omega)))
        have Y3 : YI K I2 J3 A rb b n B N t2 H2 (r + 2) dd := Y2.mv hS (q := r) (YF.jj f3 (by omega)) (Y2.1.2.1.jj (by rw [f3.1 224 (by decide) (by decide)])) Y2.1.2.2 Y2.2.2.1 Y2.2.2.2.1 Y2.2.2.2.2
        refine t_checkTop hS (by omega) Y3 (y := adt y q1 (isG b n t 45)) (adt_hi hy ht2.2.1) (fun hH => ?_) (fun I4 J4 F4 Y4 e4 v4 => ?_)
        · intro j hj
          have h0 := (ht2.2.2 hH).2
          rw [v3 j hj, rJ j hj, hv h0 j hj, v2 hH j hj]
          unfold adt
          rw [hkc]
        · exact ih n1 t2 _ _ I4 J4 (by omega) ht2.1.2 (by omega) (adt_hi hy ht2.2.1) Y4 v4 (fun kq s I5 J5 v g5 F5 => qe kq s I5 J5 v g5 (F3.trans (F4.trans F5))) (fun y' H' t' I5 J5 g5 F5 Y5 e5 => qs y' H' t' I5 J5 g5 (F3.trans (F4.trans F5)) Y5 (by rw [e5, e4, e15]; exact f1.2.1 15 (by omega)))
      unfold f_X13_readSum_j33
      refine b_ck hM.1 (b_eq (t_isSign (c := 43) hM hRT) ?_)
      rw [hx]
      cases h45 : isG b n t 45 with
      | true => exact wp_ifp rfl (fin (-1) (by rw [h45]; rfl))
      | false => exact wp_ifn (by decide) (fin 1 (by rw [h45]; rfl))
    refine b_getI hM.1 (wp_ifn h5 (b_ck hM.1 (b_eq (t_isSign (c := 43) hM hRT) ?_)))
    cases h43 : isG b n t 43 with
    | true => exact wp_ifp (by decide) (main (by rw [h43, Bool.or_true]) (by rw [h43, ex h43]; rfl))
    | false =>
      refine wp_ifn (by decide) (b_ck hM.1 (b_eq (t_isSign (c := 45) hM hRT) ?_))
      cases h45 : isG b n t 45 with
      | true => exact wp_ifn (by decide) (main (by rw [h45]; rfl) (by rw [h43, h45]; rfl))
      | false =>
        rw [h45, h43, if_neg (by decide)] at qs
        exact wp_ifp rfl (wp_rt (qs y H t I J rfl YF.rfl' hI rfl hv))
theorem y_sum {gS gP gA : Option Nat → Option Nat → Int32 → Mo Int32} {gT : Option Nat → Option Nat → Int32 → Int32 → Mo Int32} {pr : Nat → Bool → EX} (hR : R + 1 < 47) (hS : YS K A rb B N f fo) (hT : Tame pr) (hn : n ≤ 900) (hat : YC K A rb b n B N f fo dd (R + 1) pr gP) : YC K A rb b n B N f fo dd R (suF b n pr) (fb_X13_readSum gS gP gA gT) := by
  intro t H r I J Q hr hI qe qs
  have hS' := hS
  obtain ⟨hM, hSK, h4, hb, hBS, ⟨hk, hkN, hNB⟩, hf, hfo, hRF, hfo2⟩ := hS'
  unfold fb_X13_readSum
  unfold suF at qe qs
  refine b_ck hM.1 (wp_bd (hat t H r I J _ (by omega) hI (fun kq s I2 J2 v g2 F2 e1 e2 e3 => ?_) (fun q1 H2 t2 I2 J2 g2 F2 Y2 e15 v2 => ?_)))
  · rw [g2] at qe
    unfold f_X13_readSum_l7
    show wp (f_X13_readSum_b7 gS gP gA gT (some 224) (some fo) (zn f) v (lq0 (f_X13_readSum_b7 gS gP gA gT (some 224) (some fo) (zn f) v) 999999)) Q (K, I2, J2, A)
    unfold f_X13_readSum_b7
    exact b_getIv hM.1 e1 (wp_ifp rfl (wp_rt (qe kq s I2 J2 _ rfl F2 e1 e2 e3)))
  · rw [g2] at qe qs
    dsimp only at qe qs
    have ht2 := hT _ _ _ _ _ g2
    unfold f_X13_readSum_l7
    exact y_sumL hR hS hT hn hat hr 901 fuel t2 q1 H2 I2 J2 (by omega) ht2.1.2 (by unfold fuel; omega) ht2.2.1 Y2 v2 (fun kq s I5 J5 v g5 F5 => qe kq s I5 J5 v g5 (F2.trans F5)) (fun y' H' t' I5 J5 g5 F5 Y5 e5 => qs y' H' t' I5 J5 g5 (F2.trans F5) Y5 (e5.trans e15))
end
