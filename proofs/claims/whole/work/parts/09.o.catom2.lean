/-! ===== expressions: the class's atoms, whole ===== -/
def jjE (e : EX) : EX := match e with
  | Sum.inl e => Sum.inl e
  | Sum.inr q => Sum.inr (q.1, q.2.1 || hug 10 q.1, q.2.2)
def tnC (m w : Nat) (e : EX) : EX := match e with
  | Sum.inl e => Sum.inl e
  | Sum.inr q => Sum.inr (tun m w q.1, q.2.1, q.2.2)
def dpC (b : Nat → Nat) (n m : Nat) (at' : Nat → Bool → EX) (t : Nat) (H : Bool) : EX :=
  if isG b n t 40 = true then (match suF b n (prF b n m at') (t + 1) H with
    | Sum.inl e => Sum.inl e
    | Sum.inr q => if isG b n q.2.2 41 = true then Sum.inr (q.1, q.2.1, q.2.2 + 1) else Sum.inl (1, q.2.2))
  else if isW b n t 12 = true then
    (if kd' kwC b n (t + 1) ≠ 2 then Sum.inl (1, t + 1) else if unt m (whN b n (t + 1)) = false then Sum.inl (4, t + 1) else tnC m (whN b n (t + 1)) (at' (t + 2) H))
  else if isW b n t 11 = true then tnC m (m - 1) (at' (t + 1) H)
  else Sum.inl (1, t)
def XD (K : List (Nat × Nat)) (A : Nat → Nat → Option Nat) (sb : Nat) (b : Nat → Nat) (n T : Nat) (B : BKD) (N : NMD) (f d : Nat) (sp : Nat → Bool → EX) (g : Option Nat → Int32 → Option Nat → Mo Int32) : Prop :=
  ∀ (t : Nat) (H : Bool) (I : Nat → Nat → Int32) (J : Nat → Nat → Int64) (Q : Int32 → Hp → Prop), XI K I J sb b n T B N f t H →
    (∀ k s I' J', sp t H = Sum.inl (k, s) → XF (75 + (d + 1)) (85 + (d + 1)) (95 + d) I J I' J' → I' 65 11 = zn k → CT I' J' kwC b n T s → Q 0 (K, I', J', A)) →
    (∀ r H' t' I' J', sp t H = Sum.inr (r, H', t') → XF (75 + (d + 1)) (85 + (d + 1)) (95 + d) I J I' J' → XI K I' J' sb b n T B N f t' H' → (∀ i, i < 10 → J' (95 + d) i = r i) → Q 1 (K, I', J', A)) → wp (g (some 65) (zn d) (some (95 + d))) Q (K, I, J, A)
section
variable {β : Type} {kw : Nat → Int64} {K : List (Nat × Nat)} {I I' : Nat → Nat → Int32} {J J' : Nat → Nat → Int64} {A : Nat → Nat → Option Nat} {w : WD}
variable {b : Nat → Nat} {n T t m p f sb a c e d : Nat} {B : BKD} {N : NMD} {at' : Nat → Bool → EX} {H : Bool}
theorem jj_tn {w : Nat} {x : EX} : jjE (tnC m w x) = tnR m w x := by
  unfold jjE tnC tnR
  cases x <;> rfl
theorem jj_dpC (hn : n ≤ 900) (hm : 2 ≤ m ∧ m ≤ 12) (hT : Tame at') : jjE (dpC b n m at' t H) = dpS b n m at' t H := by
  unfold dpC dpS
  by_cases c1 : isG b n t 40 = true
  · rw [if_pos c1, if_pos c1]
    cases ha : suF b n (prF b n m at') (t + 1) H with
    | inl e => rfl
    | inr q =>
      obtain ⟨q1, q2, q3⟩ := q
      dsimp only
      by_cases c2 : isG b n q3 41 = true
      · rw [if_pos c2]
        obtain ⟨_, _, z4⟩ := suF_tame hn (prF_tame hn hm hT) _ _ _ _ _ ha
        show (Sum.inr (q1, q2 || hug 10 q1, q3 + 1) : EX) = Sum.inr (q1, q2, q3 + 1)
        cases h2 : q2 with
        | true => rfl
        | false => rw [(z4 h2).1]; rfl
      · rw [if_neg c2]; rfl
  · rw [if_neg c1, if_neg c1]
    by_cases c2 : isW b n t 12 = true
    · rw [if_pos c2, if_pos c2]
      by_cases c3 : kd' kwC b n (t + 1) ≠ 2
      · rw [if_pos c3, if_pos c3]; rfl
      · rw [if_neg c3, if_neg c3]
        by_cases c4 : unt m (whN b n (t + 1)) = false
        · rw [if_pos c4, if_pos c4]; rfl
        · rw [if_neg c4, if_neg c4]; exact jj_tn
    · rw [if_neg c2, if_neg c2]
      by_cases c3 : isW b n t 11 = true
      · rw [if_pos c3, if_pos c3]; exact jj_tn
      · rw [if_neg c3, if_neg c3]; rfl
theorem isW_at {i j : Nat} (h : isW b n t i = true) (hi : i < 13) (hj : j < 13) (hij : i ≠ j) : isW b n t j = false := by
  unfold isW at h ⊢
  simp only [Bool.and_eq_true, beq_iff_eq] at h
  rw [h.1, h.2]
  have : ¬ (zn i).toInt64 = (zn j).toInt64 := fun q => hij ((zn64_inj (by omega) (by omega)).mp q)
  rw [beq_eq_false_iff_ne.mpr this, Bool.and_false]
theorem x_atom {gS gP gA : Option Nat → Int32 → Mo Int32} {gD : Option Nat → Int32 → Option Nat → Mo Int32} {dp : Nat → Bool → EX} (hd : d ≤ 8) (hS : XS K A sb B N f) (hD : XD K A sb b n T B N f d dp gD) :
    XC K A sb b n T B N f (95 + d) (75 + (d + 1)) (85 + (d + 1)) (95 + d) d (fun t H => at0 b n (bfp B f) (bfn B f) f B N (jjE (dp t H)) t H) (fb_X3_readAtom gS gP gA gD) := by
  intro t H I J Q hI qe qs
  have hS' := hS
  obtain ⟨hP, hsb, hkB, hkN, hNB, hf, h6⟩ := hS'
  have hP' := hP
  obtain ⟨hk, ⟨h0, h1, h2, h3, h4, h5⟩, hT, hR, d1, d2, d3, hBs⟩ := hP'
  have hf4 := hkB.1.1
  have hFS := (hBs.2.2.2.2.1 f (by omega)).2
  have hpn := hkB.1.2 f hf
  obtain ⟨_, _, hm1, hm2⟩ := pn_rng hpn
  have a2 : A 94 d = some (95 + d) := by have := (d3.2 d (by omega)).1; rw [show 94 + 1 + d = 95 + d by omega] at this; exact this
  have o2 : kk K (95 + d) = (2, 10) := by have := (d3.2 d (by omega)).2; rw [show 94 + 1 + d = 95 + d by omega] at this; exact this
  have hI' := hI
  obtain ⟨cT, ⟨hO, cB, cN⟩, h7, h11, h13⟩ := hI'
  unfold fb_X3_readAtom
  refine b_getA hk h4 (b_eq (t_rowAt d3.1 (by omega) (by omega)) ?_)
  rw [a2]
  refine b_getA hk h0 (b_ck hT.1 (b_eq (t_atWhole hT cT) ?_))
  have qe' : ∀ k s I' J', at0 b n (bfp B f) (bfn B f) f B N (jjE (dp t H)) t H = Sum.inl (k, s) → XF (75 + (d + 1)) (85 + (d + 1)) (95 + d) I J I' J' → I' 65 11 = zn k → CT I' J' kwC b n T s → wp (f_X3_readAtom_j166 gS gP gA gD (some 65) (some (95 + d)) 0) Q (K, I', J', A) := by
    intro k s I' J' e F e11 cs
    exact x_j166e hd hS (fun v => qe k s _ J' e (F.trans (XF.i (by omega))) (by rw [st2_nk (by decide)]; exact e11) (cs.o (by decide)))
  have qs' : ∀ r H' t' I' J', at0 b n (bfp B f) (bfn B f) f B N (jjE (dp t H)) t H = Sum.inr (r, H' || hug 10 r, t') → XF (75 + (d + 1)) (85 + (d + 1)) (95 + d) I J I' J' → XI K I' J' sb b n T B N f t' H' → (∀ i, i < 10 → J' (95 + d) i = r i) → wp (f_X3_readAtom_j166 gS gP gA gD (some 65) (some (95 + d)) 1) Q (K, I', J', A) := by
    intro r H' t' I' J' e F X hr
    exact x_j166s hd hS X.2.2.2.2 hr (qs r _ t' _ J' e (F.trans (XF.i (by omega))) (X.z hS) hr)
  unfold at0 at qe' qs'
  by_cases k2 : kd' kwC b n t = 2
  · rw [if_pos k2] at qs'
    rw [k2]
    refine wp_ifn (by decide) (b_ck hk (wp_bd (t_takeWhole (g := true) hk h0 hT cT (fun g1 g2 I1 J1 f1 c1 => ?_) (fun g1 g2 => absurd g2 (by decide)) (fun g1 => absurd k2 g1))))
    have i9 : I1 65 9 = zn (whN b n t) := by rw [f1.1 65 (by decide), st2_at]
    have w1 : whN b n t ≤ 999 := (wh_ok g1).2
    refine b_getIv hk i9 (wp_bd (t_setWhole o2 (by omega) (by omega) (fun J2 f2 v2 => ?_)))
    have F1 : XF (75 + (d + 1)) (85 + (d + 1)) (95 + d) I J I1 J1 := (XF.i (j := 9) (by omega)).trans f1.xf
    have X1 : XI K I1 J1 sb b n T B N f (t + 1) H := hI.mv hS F1 c1 (by rw [f1.1 65 (by decide), st2_nk (by decide)]; exact h11) (by rw [f1.1 65 (by decide), st2_nk (by decide)]; exact h13)
    have hjf : ∀ x, x ≠ 73 → ¬ (75 + (d + 1) ≤ x ∧ x ≤ 83) → ¬ (85 + (d + 1) ≤ x ∧ x ≤ 93) → ¬ (95 + d ≤ x ∧ x ≤ 103) → J2 x = J1 x := fun x z1 z2 z3 z4 => f2 x (by omega)
    refine qs' (wu (zn (whN b n t)).toInt64) H (t + 1) I1 J2 ?_ (F1.trans (XF.jj hjf)) (X1.j hS (by omega) (by omega) (by omega) hjf) v2
    rw [wu_hug w1, Bool.or_false]
  rw [if_neg k2] at qe' qs'
  rw [beq_eq_false_iff_ne.mpr k2]
  refine wp_ifp rfl (b_getA hk h0 (b_ck hT.1 (b_eq (t_atName hT cT) ?_)))
  by_cases k5 : kd' kwC b n t = 5
  · rw [if_pos k5] at qe' qs'
    rw [k5]
    refine wp_ifn (by decide) (b_ck hk (wp_bd (t_letName hd hS hI k5 (fun hno => ?_) (fun l hl hlb I2 J2 J1 f2 f1 v1 c2 => ?_))))
    · have e : (match fnN N (vl kwC b n t) 2 with
        | none => (Sum.inl (2, t) : EX)
        | some l => if blf B l = f then Sum.inr (blr B l, H, t + 1) else Sum.inl (2, t)) = Sum.inl (2, t) := by
        cases hfn : fnN N (vl kwC b n t) 2 with
        | none => rfl
        | some l => exact if_neg (hno l hfn)
      exact qe' 2 t _ _ e (XF.i (by omega)) st2_at (cT.o (by decide))
    · rw [hl] at qs'
      dsimp only at qs'
      rw [if_pos hlb] at qs'
      have hll : l < bnl B := by
        have hf' := hl
        unfold fnN at hf'
        cases hr : rk N (vl kwC b n t) with
        | none => rw [hr] at hf'; exact absurd hf' (by simp)
        | some k =>
          rw [hr] at hf'
          dsimp only at hf'
          by_cases hs : (N.2 k).2.1 = 2
          · rw [if_pos hs] at hf'
            have e : (N.2 k).2.2 = l := by simpa using hf'
            rw [← e]
            exact (hNB k (rk_lt hr)).2.2 hs
          · rw [if_neg hs] at hf'; exact absurd hf' (by simp)
      have hlh := (hkB.2.2.2 l hll).2.2
      have hjf : ∀ x, x ≠ 73 → ¬ (75 + (d + 1) ≤ x ∧ x ≤ 83) → ¬ (85 + (d + 1) ≤ x ∧ x ≤ 93) → ¬ (95 + d ≤ x ∧ x ≤ 103) → J1 x = J x := fun x z1 z2 z3 z4 => f1 x (by omega)
      have X1 : XI K I J1 sb b n T B N f t H := hI.j hS (by omega) (by omega) (by omega) hjf
      refine qs' (blr B l) H (t + 1) I2 J2 (by rw [hlh, Bool.or_false]) ((XF.jj hjf).trans f2.xf) (X1.sf hS f2 c2) (fun i hi => by rw [f2.2.2 _ (by omega)]; exact v1 i hi)
  rw [if_neg k5] at qe' qs'
  rw [beq_eq_false_iff_ne.mpr k5]
  refine wp_ifp rfl (b_getA hk h0 (b_ck hT.1 (b_eq (t_atWord (i := 9) hT cT) ?_)))
  by_cases k9 : isW b n t 9 = true
  · rw [if_pos k9] at qe' qs'
    rw [k9]
    have kd4 := isW_k k9
    refine wp_ifn (by decide) (b_getA hk h0 (b_ck hT.1 (wp_bd (t_cstep hT cT (by omega) (fun I1 J1 f1 c1 => b_getA hk h0 (b_ck hT.1 (b_eq (t_atWholeWithin (lo := 0) (hi := 99) hT c1 (by omega) (by omega)) (b_ck hk ?_))))))))
    have X1 := hI.sf hS f1 c1
    have e165 : I1 65 = I 65 := f1.1 65 (by decide)
    have zc : ∀ {I2 : Nat → Nat → Int32} {J2 : Nat → Nat → Int64} {c : Nat} {r23 : Int32}, I2 65 9 = zn c → c < 1000 → OT K I2 → FC I2 (sb + 16 + 4 * f) (bfp B f) (bfn B f) → (∀ J3, (∀ x, x ≠ 73 → x ≠ 95 + d → J3 x = J2 x) → (∀ i, i < 10 → J3 (95 + d) i = zpw (bfn B f) c i) → wp (f_X3_readAtom_j166 gS gP gA gD (some 65) (some (95 + d)) r23) Q (K, I2, J3, A)) →
        wp (mBd (mGetA 3 1 (some 65)) (fun r24 => mBd (mGetI 3 9 (some 65)) (fun r25 => mBd (mGetA 3 6 (some 65)) (fun r26 => mBd (mCk 2 r26 (f_X2_order r26)) (fun r27 => mBd (mCk 5 r24 (f_X5_powerOfZ r24 r25 (some (95 + d)) r27)) (fun _ => f_X3_readAtom_j166 gS gP gA gD (some 65) (some (95 + d)) r23)))))) Q (K, I2, J2, A) := by
      intro I2 J2 c r23 h9 hc hO2 hFC2 w
      exact b_getA hk h1 (b_getIv hk h9 (b_getA hk h6 (b_ck hFS.1 (b_eq (t_order hFS hFC2) (b_ck hR.1 (wp_bd (t_powerOfZ hO2 hR ⟨hm1, hm2⟩ (by omega) o2 (by omega) (by omega) (fun J3 f3 v3 => w J3 f3 v3))))))))
    have er : ∀ {k s : Nat}, (at0 b n (bfp B f) (bfn B f) f B N (jjE (dp t H)) t H = Sum.inl (k, s)) → CT (st2 I1 65 11 (zn k)) J1 kwC b n T s → wp (mBd (mGetA 3 1 (some 65)) (fun r24 => mBd (mGetI 3 9 (some 65)) (fun r25 => mBd (mGetA 3 6 (some 65)) (fun r26 => mBd (mCk 2 r26 (f_X2_order r26)) (fun r27 => mBd (mCk 5 r24 (f_X5_powerOfZ r24 r25 (some (95 + d)) r27)) (fun _ => f_X3_readAtom_j166 gS gP gA gD (some 65) (some (95 + d)) 0)))))) Q (K, st2 I1 65 11 (zn k), J1, A) := by
      intro k s e cs
      refine b_getA hk h1 (b_getI hk (b_getA hk h6 (b_ck hFS.1 (b_eq (t_order hFS ((X1.2.1.2.1.2.1 f hf).mv (st2_nb (by omega)) (st2_nb (by omega)) (st2_nb (by omega)))) (b_ck hR.1 (wp_bd (t_powerAny (X1.2.1.1.ga Gr.rfl' (st2_nb (by decide)) (st2_nb (by decide))) hR ⟨hm1, hm2⟩ o2 (by omega) (by omega) (fun J3 f3 => ?_))))))))
      unfold at0 at e
      rw [if_neg k2, if_neg k5, if_pos k9] at e
      exact qe' k s _ J3 e (f1.xf.trans ((XF.i (by omega)).trans (XF.jj (fun x z1 z2 z3 z4 => f3 x z1 (by omega))))) st2_at (cs.lo (fun _ _ _ => rfl) (fun x _ _ => f3 x (by omega) (by omega)))
    have e0 : at0 b n (bfp B f) (bfn B f) f B N (jjE (dp t H)) t H = (if kd' kwC b n (t + 1) ≠ 2 then Sum.inl (1, t + 1) else if inR b n (t + 1) 0 99 = false then Sum.inl (4, t + 1) else Sum.inr (zpw (bfn B f) (whN b n (t + 1)), H, t + 2)) := by
      unfold at0
      rw [if_neg k2, if_neg k5, if_pos k9]
    refine wp_bd (t_takeWhole hk h0 hT c1 (fun g1 g2 I2 J2 f2 c2 => ?_) (fun g1 g2 => ?_) (fun g1 => ?_))
    rotate_left
    · exact er (by rw [e0, if_neg (fun q => q g1), if_pos (show inR b n (t + 1) 0 99 = false from g2)]) (c1.o (by decide))
    · exact er (by rw [e0, if_pos g1]) (c1.o (by decide))
    rw [if_neg (fun q => q g1), if_neg (by rw [show inR b n (t + 1) 0 99 = true from g2]; decide)] at qs'
    have i9 : I2 65 9 = zn (whN b n (t + 1)) := by rw [f2.1 65 (by decide), st2_at]
    have w1 : whN b n (t + 1) ≤ 999 := (wh_ok g1).2
    have F2 : XF (75 + (d + 1)) (85 + (d + 1)) (95 + d) I J I2 J2 := f1.xf.trans ((XF.i (j := 9) (by omega)).trans f2.xf)
    have X2 : XI K I2 J2 sb b n T B N f (t + 2) H := hI.mv hS F2 c2 (by rw [f2.1 65 (by decide), st2_nk (by decide), e165]; exact h11) (by rw [f2.1 65 (by decide), st2_nk (by decide), e165]; exact h13)
    refine zc i9 (by omega) X2.2.1.1 (X2.2.1.2.1.2.1 f hf) (fun J3 f3 v3 => ?_)
    have hjf : ∀ x, x ≠ 73 → ¬ (75 + (d + 1) ≤ x ∧ x ≤ 83) → ¬ (85 + (d + 1) ≤ x ∧ x ≤ 93) → ¬ (95 + d ≤ x ∧ x ≤ 103) → J3 x = J2 x := fun x z1 z2 z3 z4 => f3 x z1 (by omega)
    exact qs' _ H (t + 2) I2 J3 (by rw [zpw_hug ⟨hm1, hm2⟩, Bool.or_false]) (F2.trans (XF.jj hjf)) (X2.j hS (by omega) (by omega) (by omega) hjf) v3
  rw [if_neg k9] at qe' qs'
  rw [Bool.eq_false_iff.mpr k9]
  refine wp_ifp rfl (b_getA hk h0 (b_ck hT.1 (b_eq (t_atWord (i := 10) hT cT) ?_)))
  by_cases k10 : isW b n t 10 = true
  · rw [if_pos k10] at qe' qs'
    rw [k10]
    have kd4 := isW_k k10
    refine wp_ifn (by decide) (b_getA hk h0 (b_ck hT.1 (wp_bd (t_cstep hT cT (by omega) (fun I1 J1 f1 c1 => b_ck hk ?_)))))
    have X1 := hI.sf hS f1 c1
    have e165 : I1 65 = I 65 := f1.1 65 (by decide)
    have jc : ∀ {I2 : Nat → Nat → Int32} {J2 : Nat → Nat → Int64} {c c' : Nat} {r : Int32}, I2 65 9 = zn c → c < 1000 → I2 65 10 = zn c' → c' < 1000 → OT K I2 → FC I2 (sb + 16 + 4 * f) (bfp B f) (bfn B f) → (∀ J3, (∀ x, x ≠ 73 → x ≠ 95 + d → J3 x = J2 x) → (∀ i, i < 10 → J3 (95 + d) i = jac (bfp B f) (bfn B f) c' c i) → wp (f_X3_readAtom_j166 gS gP gA gD (some 65) (some (95 + d)) r) Q (K, I2, J3, A)) →
        wp (mBd (mGetA 3 6 (some 65)) (fun r16 => mBd (mGetI 3 10 (some 65)) (fun r17 => mBd (mGetI 3 9 (some 65)) (fun r18 => mBd (mGetA 3 1 (some 65)) (fun r19 => mBd (mCk 2 r16 (f_X2_jacobiSum r16 r17 r18 r19 (some (95 + d)))) (fun _ => f_X3_readAtom_j166 gS gP gA gD (some 65) (some (95 + d)) r)))))) Q (K, I2, J2, A) := by
      intro I2 J2 c c' r h9 hc h10 hc' hO2 hFC2 w
      exact b_getA hk h6 (b_getIv hk h10 (b_getIv hk h9 (b_getA hk h1 (b_ck hFS.1 (wp_bd (t_jacobiSum hO2 hFS hFC2 hpn hR hc' hc o2 (by omega) (by omega) (fun J3 f3 v3 => w J3 f3 v3)))))))
    have e0 : ∀ {x y : Nat}, sTwo b n (bfn B f) (t + 1) = Sum.inr (x, y) → (if kd' kwC b n (t + 1) ≠ 2 then (Sum.inl (1, t + 1) : EX) else if inR b n (t + 1) 0 (bfn B f - 1) = false then Sum.inl (4, t + 1)
      else if isG b n (t + 2) 44 = false then Sum.inl (1, t + 2)
      else if kd' kwC b n (t + 3) ≠ 2 then Sum.inl (1, t + 3) else if inR b n (t + 3) 0 (bfn B f - 1) = false then Sum.inl (4, t + 3)
      else Sum.inr (jac (bfp B f) (bfn B f) (whN b n (t + 1)) (whN b n (t + 3)), H, t + 4)) = Sum.inr (jac (bfp B f) (bfn B f) x y, H, t + 4) := by
      intro x y h
      unfold sTwo at h
      repeat (first | (split at h; first | (exact absurd h (by simp)) | skip))
      rename_i z1 z2 z3 z4 z5
      rw [if_neg z1, if_neg z2, if_neg z3, if_neg z4, if_neg z5]
      have := Prod.mk.inj (Sum.inr.inj h)
      rw [← this.1, ← this.2]
    have e1 : ∀ {k s : Nat}, sTwo b n (bfn B f) (t + 1) = Sum.inl (k, s) → (if kd' kwC b n (t + 1) ≠ 2 then (Sum.inl (1, t + 1) : EX) else if inR b n (t + 1) 0 (bfn B f - 1) = false then Sum.inl (4, t + 1)
      else if isG b n (t + 2) 44 = false then Sum.inl (1, t + 2)
      else if kd' kwC b n (t + 3) ≠ 2 then Sum.inl (1, t + 3) else if inR b n (t + 3) 0 (bfn B f - 1) = false then Sum.inl (4, t + 3)
      else Sum.inr (jac (bfp B f) (bfn B f) (whN b n (t + 1)) (whN b n (t + 3)), H, t + 4)) = Sum.inl (k, s) := by
      intro k s h
      unfold sTwo at h
      by_cases z1 : kd' kwC b n (t + 1) ≠ 2
      · rw [if_pos z1] at h ⊢; exact congrArg Sum.inl (Sum.inl.inj h)
      rw [if_neg z1] at h ⊢
      by_cases z2 : inR b n (t + 1) 0 (bfn B f - 1) = false
      · rw [if_pos z2] at h ⊢; exact congrArg Sum.inl (Sum.inl.inj h)
      rw [if_neg z2] at h ⊢
      by_cases z3 : isG b n (t + 2) 44 = false
      · rw [if_pos z3] at h ⊢; exact congrArg Sum.inl (Sum.inl.inj h)
      rw [if_neg z3] at h ⊢
      by_cases z4 : kd' kwC b n (t + 3) ≠ 2
      · rw [if_pos z4] at h ⊢; exact congrArg Sum.inl (Sum.inl.inj h)
      rw [if_neg z4] at h ⊢
      by_cases z5 : inR b n (t + 3) 0 (bfn B f - 1) = false
      · rw [if_pos z5] at h ⊢; exact congrArg Sum.inl (Sum.inl.inj h)
      rw [if_neg z5] at h
      exact absurd h (by simp)
    refine wp_bd (t_two hS X1 (fun k s I2 J2 g F2 j2 e2 c2 => ?_) (fun x y I2 J2 g F2 j2 e2 e2' c2 z9 z9' z10 z10' => ?_))
    · have F2' : XF (75 + (d + 1)) (85 + (d + 1)) (95 + d) I J I2 J2 := f1.xf.trans (F2.wk (by omega) (by omega) (by omega))
      refine b_getA hk h6 (b_getI hk (b_getI hk (b_getA hk h1 (b_ck hFS.1 (wp_bd (t_jacobiAny (hO.ga Gr.rfl' (F2'.1 0 (by omega) (by omega)) (F2'.1 1 (by omega) (by omega))) hFS ((cB.2.1 f hf).mv (F2'.1 _ (by omega) (by omega)) (F2'.1 _ (by omega) (by omega)) (F2'.1 _ (by omega) (by omega))) hpn hR o2 (by omega) (by omega) (fun J3 f3 => ?_)))))))
      exact qe' k s I2 J3 (e1 g) (F2'.trans (XF.jj (fun x z1 z2 z3 z4 => f3 x z1 (by omega)))) e2 (c2.lo (fun _ _ _ => rfl) (fun x _ _ => f3 x (by omega) (by omega)))
    · have F2' : XF (75 + (d + 1)) (85 + (d + 1)) (95 + d) I J I2 J2 := f1.xf.trans (F2.wk (by omega) (by omega) (by omega))
      have X2 : XI K I2 J2 sb b n T B N f (t + 4) H := hI.mv hS F2' c2 (by rw [e2', e165]; exact h11) (by rw [e2, e165]; exact h13)
      refine jc z9 z9' z10 z10' X2.2.1.1 (X2.2.1.2.1.2.1 f hf) (fun J3 f3 v3 => ?_)
      have hjf : ∀ x, x ≠ 73 → ¬ (75 + (d + 1) ≤ x ∧ x ≤ 83) → ¬ (85 + (d + 1) ≤ x ∧ x ≤ 93) → ¬ (95 + d ≤ x ∧ x ≤ 103) → J3 x = J2 x := fun x z1 z2 z3 z4 => f3 x z1 (by omega)
      exact qs' _ H (t + 4) I2 J3 (by rw [jac_hug hpn, Bool.or_false]; exact e0 g) (F2'.trans (XF.jj hjf)) (X2.j hS (by omega) (by omega) (by omega) hjf) v3
  rw [if_neg k10] at qe' qs'
  rw [Bool.eq_false_iff.mpr k10]
  refine wp_ifp rfl (b_ck hk (wp_bd (hD t H I J _ hI (fun k s I2 J2 g F2 e2 c2 => ?_) (fun r H2 t2 I2 J2 g F2 X2 r2 => ?_))))
  · exact qe' k s I2 J2 (by rw [g]; rfl) F2 e2 c2
  · exact qs' r H2 t2 I2 J2 (by rw [g]; rfl) F2 X2 r2
end
