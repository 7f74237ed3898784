/-! ===== expressions: the class's brackets, conj, turn ===== -/
section
variable {β : Type} {kw : Nat → Int64} {K : List (Nat × Nat)} {I I' : Nat → Nat → Int32} {J J' : Nat → Nat → Int64} {A : Nat → Nat → Option Nat} {w : WD}
variable {b : Nat → Nat} {n T t m p f sb a c e d : Nat} {B : BKD} {N : NMD} {at' : Nat → Bool → EX} {H : Bool}
theorem x_deep0 {gS gP gA : Option Nat → Int32 → Mo Int32} {gD : Option Nat → Int32 → Option Nat → Mo Int32} (hS : XS K A sb B N f) : XD K A sb b n T B N f 8 (fun t _ => dp0 b n t) (fb_X3_readDeeper gS gP gA gD) := by
  intro t H I J Q hI qe qs
  obtain ⟨⟨hk, ⟨h0, h1, h2, h3, h4, h5⟩, hT, hR, d1, d2, d3, hBs⟩, hsb, hkB, hkN, hNB, hf, h6⟩ := hS
  have cT := hI.1
  have bad : (isG b n t 40 || isW b n t 12 || isW b n t 11) = true → ∀ x3 x4 : Int32, wp (f_X3_readDeeper_j48 gS gP gA gD (some 65) (zn 8) (some (95 + 8)) x3 x4) Q (K, I, J, A) := by
    intro h x3 x4
    unfold f_X3_readDeeper_j48
    refine wp_ifn (by decide) (e_blame (k := 5) hk (qe 5 t _ _ ?_ (XF.i (by omega)) st2_at (cT.o (by decide))))
    show dp0 b n t = _
    unfold dp0
    rw [if_pos h]
  unfold fb_X3_readDeeper
  refine b_getA hk h0 (b_ck hT.1 (b_eq (t_atSign (c := 40) hT cT) (b_getA hk h0 (b_ck hT.1 (b_eq (t_atWord (i := 12) hT cT) ?_)))))
  cases c1 : isG b n t 40 with
  | true => exact wp_ifp (by decide) (bad (by rw [c1]; rfl) _ _)
  | false =>
    refine wp_ifn (by decide) ?_
    cases c2 : isW b n t 12 with
    | true => exact wp_ifp (by decide) (bad (by rw [c2, Bool.or_true]; rfl) _ _)
    | false =>
      refine wp_ifn (by decide) (b_getA hk h0 (b_ck hT.1 (b_eq (t_atWord (i := 11) hT cT) ?_)))
      cases c3 : isW b n t 11 with
      | true => exact wp_ifp (by decide) (bad (by rw [c3, Bool.or_true]) _ _)
      | false =>
        refine wp_ifn (by decide) (e_blame (k := 1) hk (qe 1 t _ _ ?_ (XF.i (by omega)) st2_at (cT.o (by decide))))
        show dp0 b n t = _
        unfold dp0
        rw [c1, c2, c3, if_neg (by decide)]
theorem x_deep {gS gP gA : Option Nat → Int32 → Mo Int32} {gD : Option Nat → Int32 → Option Nat → Mo Int32} (hd : d ≤ 7) (hS : XS K A sb B N f) (hat : XC K A sb b n T B N f (95 + (d + 1)) (75 + (d + 1 + 1)) (85 + (d + 1 + 1)) (95 + (d + 1)) (d + 1) at' gA) (hsu : XC K A sb b n T B N f (75 + (d + 1)) (75 + (d + 1)) (85 + (d + 1)) (95 + (d + 1)) (d + 1) (suF b n (prF b n (bfn B f) at')) gS) :
    XD K A sb b n T B N f d (dpC b n (bfn B f) at') (fb_X3_readDeeper gS gP gA gD) := by
  intro t H I J Q hI qe qs
  have hS' := hS
  obtain ⟨⟨hk, ⟨h0, h1, h2, h3, h4, h5⟩, hT, hR, d1, d2, d3, hBs⟩, hsb, hkB, hkN, hNB, hf, h6⟩ := hS'
  have hf4 := hkB.1.1
  have hFS := (hBs.2.2.2.2.1 f (by omega)).2
  have hpn := hkB.1.2 f hf
  obtain ⟨_, _, hm1, hm2⟩ := pn_rng hpn
  have a0 : A 74 (d + 1) = some (75 + (d + 1)) := by have := (d1.2 (d + 1) (by omega)).1; rw [show 74 + 1 + (d + 1) = 75 + (d + 1) by omega] at this; exact this
  have a2 : A 94 (d + 1) = some (95 + (d + 1)) := by have := (d3.2 (d + 1) (by omega)).1; rw [show 94 + 1 + (d + 1) = 95 + (d + 1) by omega] at this; exact this
  have o0 : kk K (75 + (d + 1)) = (2, 10) := by have := (d1.2 (d + 1) (by omega)).2; rw [show 74 + 1 + (d + 1) = 75 + (d + 1) by omega] at this; exact this
  have o2 : kk K (95 + d) = (2, 10) := by have := (d3.2 d (by omega)).2; rw [show 94 + 1 + d = 95 + d by omega] at this; exact this
  have o3 : kk K (95 + (d + 1)) = (2, 10) := by have := (d3.2 (d + 1) (by omega)).2; rw [show 94 + 1 + (d + 1) = 95 + (d + 1) by omega] at this; exact this
  have cT := hI.1
  have jt : ∀ {J2 J3 : Nat → Nat → Int64}, (∀ x, x ≠ 73 → x ≠ 95 + d → J3 x = J2 x) → ∀ x, x ≠ 73 → ¬ (75 + (d + 1) ≤ x ∧ x ≤ 83) → ¬ (85 + (d + 1) ≤ x ∧ x ≤ 93) → ¬ (95 + d ≤ x ∧ x ≤ 103) → J3 x = J2 x := fun h x z1 z2 z3 z4 => h x z1 (by omega)
  -- an atom is read, and turned
  have turns : ∀ {t1 w : Nat} {I1 : Nat → Nat → Int32} {J1 : Nat → Nat → Int64}, dpC b n (bfn B f) at' t H = tnC (bfn B f) w (at' t1 H) → w < 1000 → XF (75 + (d + 1)) (85 + (d + 1)) (95 + d) I J I1 J1 → XI K I1 J1 sb b n T B N f t1 H → wp (f_X3_readDeeper_j163 gS gP gA gD (some 65) (zn d) (some (95 + d)) (zn w)) Q (K, I1, J1, A) := by
    intro t1 w I1 J1 e hw F1 X1
    unfold f_X3_readDeeper_j163
    rw [zn_succ]
    refine b_ck hk (wp_bd (hat t1 H I1 J1 _ X1 (fun k s I2 J2 g F2 e2 c2 => ?_) (fun r H2 t2 I2 J2 g F2 X2 r2 => ?_)))
    · refine b_getA hk h1 (b_getA hk h4 (b_eq (t_rowAt d3.1 (by omega) (by omega)) (b_getA hk h6 (b_ck hFS.1 (b_eq (t_order hFS ((X1.2.1.2.1.2.1 f hf).mv (F2.1 _ (by omega) (by omega)) (F2.1 _ (by omega) (by omega)) (F2.1 _ (by omega) (by omega)))) (b_ck hR.1 ?_))))))
      rw [a2]
      refine wp_bd (t_turnRow (x := 95 + (d + 1)) (X1.2.1.1.ga Gr.rfl' (F2.1 0 (by omega) (by omega)) (F2.1 1 (by omega) (by omega))) hR ⟨hm1, hm2⟩ hw o3 o2 (by omega) (by omega) (by omega) (fun J3 f3 v3 => wp_rq (by decide) (wp_rt (qe k s I2 J3 ?_ (F1.trans ((F2.wk (by omega) (by omega) (by omega)).trans (XF.jj (jt f3)))) e2 (c2.lo (fun _ _ _ => rfl) (fun x _ _ => f3 x (by omega) (by omega)))))))
      rw [e, g]; rfl
    · refine b_getA hk h1 (b_getA hk h4 (b_eq (t_rowAt d3.1 (by omega) (by omega)) (b_getA hk h6 (b_ck hFS.1 (b_eq (t_order hFS (X2.2.1.2.1.2.1 f hf)) (b_ck hR.1 ?_))))))
      rw [a2]
      refine wp_bd (t_turnRow (x := 95 + (d + 1)) X2.2.1.1 hR ⟨hm1, hm2⟩ hw o3 o2 (by omega) (by omega) (by omega) (fun J3 f3 v3 => wp_rq (by decide) (wp_rt (qs (tun (bfn B f) w r) H2 t2 I2 J3 ?_ (F1.trans ((F2.wk (by omega) (by omega) (by omega)).trans (XF.jj (jt f3)))) (X2.j hS (by omega) (by omega) (by omega) (jt f3)) (fun i hi => ?_)))))
      · rw [e, g]; rfl
      · rw [v3 i hi, tun_congr (x := J2 (95 + (d + 1))) (x' := r) (fun k hk => r2 k (by have := phi_rng hm1 hm2; omega))]
  unfold fb_X3_readDeeper
  refine b_getA hk h0 (b_ck hT.1 (b_eq (t_atSign (c := 40) hT cT) (b_getA hk h0 (b_ck hT.1 (b_eq (t_atWord (i := 12) hT cT) ?_)))))
  unfold dpC at qe qs turns
  by_cases c1 : isG b n t 40 = true
  · rw [if_pos c1] at qe qs
    have k3 := isG_k c1
    rw [c1]
    refine wp_ifp (by decide) ?_
    unfold f_X3_readDeeper_j48
    refine wp_ifp (lt_t (b := 8) (by omega)) (b_getA hk h0 (b_ck hT.1 (wp_bd (t_cstep hT cT (by omega) (fun I1 J1 f1 c1' => wp_ifn (by decide) (b_ck hk ?_))))))
    rw [zn_succ]
    have X1 := hI.sf hS f1 c1'
    have cp : ∀ {I2 : Nat → Nat → Int32} {J2 : Nat → Nat → Int64} {s0 : Int32}, (s0 = 0 ∨ s0 = 1) → (∀ J3, (∀ x, x ≠ 73 → x ≠ 95 + d → J3 x = J2 x) → (∀ i, i < 10 → J3 (95 + d) i = J2 (75 + (d + 1)) i) → Q s0 (K, I2, J3, A)) → wp (f_X3_readDeeper_j95 gS gP gA gD (some 65) (zn d) (some (95 + d)) s0) Q (K, I2, J2, A) := by
      intro I2 J2 s0 h01 w
      unfold f_X3_readDeeper_j95
      rw [zn_succ]
      refine b_getA hk h2 (b_eq (t_rowAt d1.1 (by omega) (by omega)) ?_)
      rw [a0]
      exact wp_bd (t_copy o0 o2 (by omega) (by omega) (by omega) (by omega) (fun J3 f3 v3 => wp_rq h01 (wp_rt (w J3 (fun x _ z => f3 x z) (fun i hi => by rw [v3 i hi, if_pos hi])))))
    refine wp_bd (hsu (t + 1) H I1 J1 _ X1 (fun k s I2 J2 g F2 e2 c2 => ?_) (fun r H2 t2 I2 J2 g F2 X2 r2 => ?_))
    · rw [g] at qe
      refine wp_ifp rfl ?_
      unfold f_X3_readDeeper_j94
      exact cp (Or.inl rfl) (fun J3 f3 v3 => qe k s I2 J3 rfl (f1.xf.trans ((F2.wk (by omega) (by omega) (by omega)).trans (XF.jj (jt f3)))) e2 (c2.lo (fun _ _ _ => rfl) (fun x _ _ => f3 x (by omega) (by omega))))
    · rw [g] at qe qs
      dsimp only at qe qs
      refine wp_ifn (by decide) (b_ck hk (wp_bd (t_takeSign (c := 41) hk h0 hT X2.1 (fun g3 I3 J3 f3 c3 => ?_) (fun g3 => ?_))))
      · rw [if_pos g3] at qs
        refine wp_ifn (by decide) (cp (Or.inr rfl) (fun J4 f4 v4 => qs r H2 (t2 + 1) I3 J4 rfl (f1.xf.trans ((F2.wk (by omega) (by omega) (by omega)).trans (f3.xf.trans (XF.jj (jt f4))))) ((X2.sf hS f3 c3).j hS (by omega) (by omega) (by omega) (jt f4)) (fun i hi => ?_)))
        rw [v4 i hi, f3.2.2 _ (by omega)]
        exact r2 i hi
      · rw [if_neg (by rw [g3]; decide)] at qe
        refine wp_ifp rfl ?_
        unfold f_X3_readDeeper_j94
        exact cp (Or.inl rfl) (fun J3 f3 v3 => qe 1 t2 _ J3 rfl (f1.xf.trans ((F2.wk (by omega) (by omega) (by omega)).trans ((XF.i (by omega)).trans (XF.jj (jt f3))))) st2_at ((X2.1.o (by decide)).lo (fun _ _ _ => rfl) (fun x _ _ => f3 x (by omega) (by omega))))
  rw [if_neg c1] at qe qs turns
  rw [Bool.eq_false_iff.mpr c1]
  refine wp_ifn (by decide) ?_
  by_cases c2 : isW b n t 12 = true
  · rw [if_pos c2] at qe qs turns
    have k4 := isW_k c2
    rw [c2]
    refine wp_ifp (by decide) ?_
    unfold f_X3_readDeeper_j48
    refine wp_ifp (lt_t (b := 8) (by omega)) (b_getA hk h0 (b_ck hT.1 (wp_bd (t_cstep hT cT (by omega) (fun I1 J1 f1 c1' => wp_ifp rfl (wp_ifn (by decide) ?_))))))
    have X1 := hI.sf hS f1 c1'
    refine b_getA hk h6 (b_getA hk h0 (b_ck hT.1 (b_eq (t_wholeNow hT c1') (b_ck hFS.1 (b_eq (t_hasTurn hFS (X1.2.1.2.1.2.1 f hf) hpn whI_rng) (b_ck hk (wp_bd (t_takeWhole hk h0 hT c1' (fun g3 g4 I2 J2 f2 c2' => ?_) (fun g3 g4 => ?_) (fun g3 => ?_)))))))))
    rotate_left
    · rw [whI_2 g3] at g4
      rw [if_neg (fun q => q g3), if_pos (show unt (bfn B f) (whN b n (t + 1)) = false from g4)] at qe
      exact wp_ifn (by decide) (wp_rt (qe 4 (t + 1) _ _ rfl (f1.xf.trans (XF.i (by omega))) st2_at (c1'.o (by decide))))
    · rw [if_pos g3] at qe
      exact wp_ifn (by decide) (wp_rt (qe 1 (t + 1) _ _ rfl (f1.xf.trans (XF.i (by omega))) st2_at (c1'.o (by decide))))
    rw [whI_2 g3] at g4
    have i9 : I2 65 9 = zn (whN b n (t + 1)) := by rw [f2.1 65 (by decide), st2_at]
    have w1 : whN b n (t + 1) ≤ 999 := (wh_ok g3).2
    have F2 : XF (75 + (d + 1)) (85 + (d + 1)) (95 + d) I J I2 J2 := f1.xf.trans ((XF.i (j := 9) (by omega)).trans f2.xf)
    have X2 : XI K I2 J2 sb b n T B N f (t + 2) H := X1.mv hS (a := 0) (c := 0) (e := 0) ((XF.i (j := 9) (by omega)).trans f2.xf) c2' (by rw [f2.1 65 (by decide), st2_nk (by decide)]; exact X1.2.2.2.1) (by rw [f2.1 65 (by decide), st2_nk (by decide)]; exact X1.2.2.2.2)
    refine wp_ifp (by decide) ?_
    unfold f_X3_readDeeper_j142
    refine wp_ifn (by decide) (b_getIv hk i9 (turns ?_ (by omega) F2 X2))
    rw [if_neg (fun q => q g3), if_neg (by rw [show unt (bfn B f) (whN b n (t + 1)) = true from g4]; decide)]
  rw [if_neg c2] at qe qs turns
  rw [Bool.eq_false_iff.mpr c2]
  refine wp_ifn (by decide) (b_getA hk h0 (b_ck hT.1 (b_eq (t_atWord (i := 11) hT cT) ?_)))
  by_cases c3 : isW b n t 11 = true
  · rw [if_pos c3] at turns
    have k4 := isW_k c3
    rw [c3]
    refine wp_ifp (by decide) ?_
    unfold f_X3_readDeeper_j48
    refine wp_ifp (lt_t (b := 8) (by omega)) (b_getA hk h0 (b_ck hT.1 (wp_bd (t_cstep hT cT (by omega) (fun I1 J1 f1 c1' => wp_ifp rfl (wp_ifp rfl ?_))))))
    have X1 := hI.sf hS f1 c1'
    unfold f_X3_readDeeper_j142
    refine wp_ifp rfl (b_getA hk h6 (b_ck hFS.1 (b_eq (t_order hFS (X1.2.1.2.1.2.1 f hf)) ?_)))
    rw [zn_pred1 (by omega)]
    exact turns rfl (by omega) f1.xf X1
  · rw [if_neg c3] at qe
    rw [Bool.eq_false_iff.mpr c3]
    exact wp_ifn (by decide) (e_blame (k := 1) hk (qe 1 t _ _ rfl (XF.i (by omega)) st2_at (cT.o (by decide))))
theorem XC.sp {o : Nat} {s1 s2 : Nat → Bool → EX} {g : Option Nat → Int32 → Mo Int32} (h : XC K A sb b n T B N f o a c e d s1 g) (hs : ∀ t H, s1 t H = s2 t H) : XC K A sb b n T B N f o a c e d s2 g :=
  fun t H I J Q hI qe qs => h t H I J Q hI (fun k s I' J' x => qe k s I' J' (by rw [← hs]; exact x)) (fun r H' t' I' J' x => qs r H' t' I' J' (by rw [← hs]; exact x))
/-- the class reads an atom at depth 8 - k -/
theorem x_atoms (hS : XS K A sb B N f) (hn : n ≤ 900) : ∀ k, k ≤ 8 → ∀ G, 4 * k + 2 ≤ G → XC K A sb b n T B N f (95 + (8 - k)) (75 + (8 - k + 1)) (85 + (8 - k + 1)) (95 + (8 - k)) (8 - k) (fun t H => atX b n (bfp B f) (bfn B f) f B N k t H) (grA G).2.2.1 := by
  intro k
  have hpn := hS.2.2.1.1.2 f hS.2.2.2.2.2.1
  obtain ⟨_, _, hm1, hm2⟩ := pn_rng hpn
  induction k with
  | zero =>
    intro _ G hG
    obtain ⟨g, rfl⟩ : ∃ g, G = g + 2 := ⟨G - 2, by omega⟩
    exact (x_atom (d := 8) (gS := (grA (g + 1)).1) (gP := (grA (g + 1)).2.1) (gA := (grA (g + 1)).2.2.1) (gD := (grA (g + 1)).2.2.2) (by omega) hS (x_deep0 (gS := (grA g).1) (gP := (grA g).2.1) (gA := (grA g).2.2.1) (gD := (grA g).2.2.2) hS)).sp (fun t H => by
      show at0 b n (bfp B f) (bfn B f) f B N (jjE (dp0 b n t)) t H = at0 b n (bfp B f) (bfn B f) f B N (dp0 b n t) t H
      have : jjE (dp0 b n t) = dp0 b n t := by unfold dp0; split <;> rfl
      rw [this])
  | succ k ih =>
    intro hk G hG
    obtain ⟨g, rfl⟩ : ∃ g, G = g + 4 := ⟨G - 4, by omega⟩
    have e8 : 8 - (k + 1) + 1 = 8 - k := by omega
    have hat := ih (by omega) (g + 2) (by omega)
    have hat0 := ih (by omega) g (by omega)
    have hsum := x_sum (gS := (grA (g + 1)).1) (gP := (grA (g + 1)).2.1) (gA := (grA (g + 1)).2.2.1) (gD := (grA (g + 1)).2.2.2) (by omega) hS (x_prod (gS := (grA g).1) (gP := (grA g).2.1) (gA := (grA g).2.2.1) (gD := (grA g).2.2.2) (by omega) hS hat0)
    have hD := x_deep (d := 8 - (k + 1)) (gS := (grA (g + 2)).1) (gP := (grA (g + 2)).2.1) (gA := (grA (g + 2)).2.2.1) (gD := (grA (g + 2)).2.2.2) (at' := fun t H => atX b n (bfp B f) (bfn B f) f B N k t H) (by omega) hS (by rw [e8]; exact hat) (by rw [e8]; exact hsum)
    exact (x_atom (d := 8 - (k + 1)) (gS := (grA (g + 3)).1) (gP := (grA (g + 3)).2.1) (gA := (grA (g + 3)).2.2.1) (gD := (grA (g + 3)).2.2.2) (by omega) hS hD).sp (fun t H => by
      show at0 b n (bfp B f) (bfn B f) f B N (jjE (dpC b n (bfn B f) (fun t H => atX b n (bfp B f) (bfn B f) f B N k t H) t H)) t H = at0 b n (bfp B f) (bfn B f) f B N (dpS b n (bfn B f) (fun t H => atX b n (bfp B f) (bfn B f) f B N k t H) t H) t H
      rw [jj_dpC hn ⟨hm1, hm2⟩ (atX_tame hn hpn hS.2.2.1 hS.2.2.2.2.1 k)])
/-- what a let's sum is -/
def suX (b : Nat → Nat) (n p m f : Nat) (B : BKD) (N : NMD) : Nat → Bool → EX := suF b n (prF b n m (fun t H => atX b n p m f B N 8 t H))
theorem x_sum0 (hS : XS K A sb B N f) (hn : n ≤ 900) : XC K A sb b n T B N f 75 75 85 95 0 (suX b n (bfp B f) (bfn B f) f B N) (f_X3_readSum 60) := by
  have hat := x_atoms (b := b) (T := T) hS hn 8 (by omega) 58 (by omega)
  exact x_sum (d := 0) (gS := (grA 59).1) (gP := (grA 59).2.1) (gA := (grA 59).2.2.1) (gD := (grA 59).2.2.2) (by omega) hS (x_prod (gS := (grA 58).1) (gP := (grA 58).2.1) (gA := (grA 58).2.2.1) (gD := (grA 58).2.2.2) (by omega) hS hat)
end
