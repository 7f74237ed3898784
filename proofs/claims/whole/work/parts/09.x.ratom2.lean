/-! ===== expressions: the reference's turns ===== -/
def YT (K : List (Nat × Nat)) (A : Nat → Nat → Option Nat) (rb : Nat) (b : Nat → Nat) (n : Nat) (B : BKD) (N : NMD) (f fo dd R : Nat) (at' : Nat → Bool → EX) (g : Option Nat → Option Nat → Int32 → Int32 → Mo Int32) : Prop :=
  ∀ (t : Nat) (H : Bool) (r w : Nat) (I : Nat → Nat → Int32) (J : Nat → Nat → Int64) (Q : Int32 → Hp → Prop), r ≤ R → w < 1000 → YI K I J A rb b n B N t H r (dd + 1) →
    (∀ k s I' J' v, tnR (bfn B f) w (at' t H) = Sum.inl (k, s) → YF r I J I' J' → I' 224 11 = 5 → I' 224 15 = zn k → I' 224 16 = zn (ps b n s) → Q v (K, I', J', A)) →
    (∀ y H' t' I' J', tnR (bfn B f) w (at' t H) = Sum.inr (y, H', t') → YF r I J I' J' → YI K I' J' A rb b n B N t' H' (r + 1) dd → I' 224 15 = I 224 15 → (H' = false → ∀ k, k < 12 → rv J' 224 r k = y k) → Q (zn r) (K, I', J', A)) → wp (g (some 224) (some fo) (zn f) (zn w)) Q (K, I, J, A)
def YO (K : List (Nat × Nat)) (A : Nat → Nat → Option Nat) (f fo : Nat) (g : Option Nat → Option Nat → Int32 → Int32 → Mo Int32) : Prop :=
  ∀ (I : Nat → Nat → Int32) (J : Nat → Nat → Int64) (Q : Int32 → Hp → Prop) (w : Int32), I 224 11 = 5 → (∀ v, Q v (K, I, J, A)) → wp (g (some 224) (some fo) (zn f) w) Q (K, I, J, A)
section
variable {β : Type} {kw : Nat → Int64} {K : List (Nat × Nat)} {I I' : Nat → Nat → Int32} {J J' : Nat → Nat → Int64} {A : Nat → Nat → Option Nat} {w : WD}
variable {b : Nat → Nat} {n t m p f fo rb r dd R : Nat} {B : BKD} {N : NMD} {at' : Nat → Bool → EX} {H : Bool}
theorem o_turns {gS gP gA : Option Nat → Option Nat → Int32 → Mo Int32} {gT : Option Nat → Option Nat → Int32 → Int32 → Mo Int32} (hM : MS K A 224) : YO K A f fo (fb_X13_turnsAtom gS gP gA gT) := by
  intro I J Q w h q
  unfold fb_X13_turnsAtom
  exact b_getIv hM.1 h (wp_ifn (by decide) (b_getI hM.1 (wp_rt (q _))))
theorem y_turns {gS gP gA : Option Nat → Option Nat → Int32 → Mo Int32} {gT : Option Nat → Option Nat → Int32 → Int32 → Mo Int32} (hR : R < 47) (hS : YS K A rb B N f fo) (hT : Tame at') (hat : YC K A rb b n B N f fo (dd + 1) R at' gA) : YT K A rb b n B N f fo dd R at' (fb_X13_turnsAtom gS gP gA gT) := by
  intro t H r w I J Q hr hw hI qe qs
  have hS' := hS
  obtain ⟨hM, hSK, h4, hb, hBS, ⟨hk, hkN, hNB⟩, hf, hfo, hRF, hfo2⟩ := hS'
  obtain ⟨_, _, hm1, hm2⟩ := pn_rng (hk.1.2 f hf)
  unfold fb_X13_turnsAtom
  refine b_getI hM.1 (wp_ifp hI.1.2.2 (b_ck hM.1 (wp_bd (hat t H r I J _ hr hI (fun kq s I2 J2 v g2 F2 e1 e2 e3 => ?_) (fun q1 H2 t2 I2 J2 g2 F2 Y2 e15 v2 => ?_)))))
  · rw [g2] at qe
    refine b_getIv hM.1 e1 (wp_ifp rfl (b_getI hM.1 (b_putI hM.1 (by decide) (wp_rt (qe kq s _ J2 _ rfl (F2.trans (YF.i (by omega))) (by rw [st2_nk (by decide)]; exact e1) (by rw [st2_nk (by decide)]; exact e2) (by rw [st2_nk (by decide)]; exact e3))))))
  have ht2 := hT _ _ _ _ _ g2
  rw [g2] at qs
  have hFC := Y2.fld hS
  refine b_getI hM.1 (wp_ifn Y2.1.2.2 (b_ck hM.1 (wp_bd (t_turnedR (m := 224) hM hRF hFC (by omega) (by omega) ⟨hm1, hm2⟩ (by omega) hw (by omega) (fun J3 f3 v3 => ?_)))))
  have F3 : YF r I J I2 J3 := F2.trans (YF.jj f3 (by omega))
  have hph := phi_rng hm1 hm2
  have Y3 : YI K I2 J3 A rb b n B N t2 H2 (r + 1) (dd + 1) := Y2.mv hS (q := r) (YF.jj f3 (by omega)) (Y2.1.2.1.jj (by rw [f3.1 224 (by decide) (by decide)])) Y2.1.2.2 Y2.2.2.1 Y2.2.2.2.1 Y2.2.2.2.2
  have hz : H2 = false → ∀ k, k < 12 → rv J3 224 r k = tun (bfn B f) w q1 k := fun hH j hj => by
    rw [v3 j hj, tun_congr (x := rv J2 224 r) (x' := q1) (fun i hi => v2 hH i (by omega))]
  have hyi : ∀ i, 10 ≤ i → tun (bfn B f) w q1 i = 0 := fun i hi => res_hi (by omega)
  refine b_ck hM.1 (wp_bd (t_checks hM (by omega) (fun h0 => ?_) (fun h1 J4 f4 => ?_)))
  · have eH : (H2 || hug 10 (tun (bfn B f) w q1)) = H2 := by
      cases hH : H2 with
      | true => rfl
      | false =>
        have e := hug12_10 (hz hH) hyi
        rw [h0] at e
        rw [← e]; rfl
    refine b_getIv hM.1 Y3.2.2.2.1 (b_putI hM.1 (by decide) (wp_rt ?_))
    rw [zn_pred1 (by omega), show dd + 1 - 1 = dd by omega]
    refine qs (tun (bfn B f) w q1) H2 t2 _ J3 ?_ (F3.trans (YF.i (by omega))) (Y3.mv hS (q := 0) (YF.i (by omega)) (Y3.1.2.1.k (by omega)) (by rw [st2_nk (by omega)]; exact Y3.1.2.2) (by rw [st2_nk (by omega)]; exact Y3.2.2.1) st2_at (by rw [st2_nk (by omega)]; exact Y3.2.2.2.2)) (by rw [st2_nk (by omega)]; exact e15) hz
    show (Sum.inr (tun (bfn B f) w q1, (H2 || hug 10 (tun (bfn B f) w q1)), t2) : EX) = _
    rw [eH]
  · have eH : (H2 || hug 10 (tun (bfn B f) w q1)) = true := by
      cases hH : H2 with
      | true => rfl
      | false =>
        have e := hug12_10 (hz hH) hyi
        rw [h1] at e
        rw [← e]; rfl
    have F4 : YF r I2 J3 (st2 (st2 I2 224 20 1) 224 19 (zn dd)) J4 := (YF.i (j := 20) (by omega)).trans ((YF.i (j := 19) (by omega)).trans (YF.jj f4 (by omega)))
    refine b_getIv hM.1 ((st2_nk (by decide)).trans Y3.2.2.2.1) (b_putI hM.1 (by decide) (wp_rt ?_))
    rw [zn_pred1 (by omega), show dd + 1 - 1 = dd by omega]
    refine qs (tun (bfn B f) w q1) true t2 _ J4 ?_ (F3.trans F4) (Y3.mv hS F4 (((Y3.1.2.1.k (by omega)).k (by omega)).jj (by rw [f4.1 224 (by decide) (by decide)])) (by rw [st2_nk (by omega), st2_nk (by omega)]; exact Y3.1.2.2) (by rw [st2_nk (by omega), st2_nk (by omega)]; exact Y3.2.2.1) st2_at (by rw [st2_nk (by omega), st2_at]; rfl)) (by rw [st2_nk (by omega), st2_nk (by omega)]; exact e15) (fun h => absurd h (by decide))
    show (Sum.inr (tun (bfn B f) w q1, (H2 || hug 10 (tun (bfn B f) w q1)), t2) : EX) = _
    rw [eH]
theorem isW_no {i : Nat} (h : kd' kwC b n t ≠ 4) : isW b n t i = false := by
  unfold isW
  rw [beq_eq_false_iff_ne.mpr h, Bool.false_and]
theorem at0_dp {dp : EX} (h2 : kd' kwC b n t ≠ 2) (h5 : kd' kwC b n t ≠ 5) (h9 : isW b n t 9 = false) (h10 : isW b n t 10 = false) : at0 b n p m f B N dp t H = dp := by
  unfold at0
  rw [if_neg h2, if_neg h5, h9, h10, if_neg (by decide), if_neg (by decide)]
theorem y_j56o {gS gP gA : Option Nat → Option Nat → Int32 → Mo Int32} {gT : Option Nat → Option Nat → Int32 → Int32 → Mo Int32} {Q : Int32 → Hp → Prop} {s0 : Int32} (hM : MS K A 224) (h : I 224 11 = 5) (q : ∀ v, Q s0 (K, st2 I 224 19 v, J, A)) : wp (f_X13_readAtom_j56 gS gP gA gT (some 224) s0) Q (K, I, J, A) := by
  unfold f_X13_readAtom_j56
  exact b_ck hM.1 (b_eq (o_needsSign hM h) (b_getI hM.1 (b_putI hM.1 (by decide) (wp_rt (q _)))))
end
