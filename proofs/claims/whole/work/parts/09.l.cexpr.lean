/-! ===== expressions: the class's products and sums ===== -/
/-- what reading an expression may change in the class -/
def XF (a c e : Nat) (I : Nat → Nat → Int32) (J : Nat → Nat → Int64) (I' : Nat → Nat → Int32) (J' : Nat → Nat → Int64) : Prop :=
  (∀ x, x ≠ 65 → x ≠ 66 → I' x = I x) ∧ (∀ j, j ≠ 9 → j ≠ 10 → j ≠ 11 → j ≠ 13 → I' 65 j = I 65 j) ∧ (∀ x, x ≠ 66 → x ≠ 73 → ¬ (a ≤ x ∧ x ≤ 83) → ¬ (c ≤ x ∧ x ≤ 93) → ¬ (e ≤ x ∧ x ≤ 103) → J' x = J x)
def XS (K : List (Nat × Nat)) (A : Nat → Nat → Option Nat) (sb : Nat) (B : BKD) (N : NMD) (f : Nat) : Prop := PS K A sb ∧ (sb = 104 ∨ sb = 172) ∧ okB B ∧ okN N ∧ okNB B N ∧ f < bnf B ∧ A 65 6 = some (sb + 16 + 4 * f)
/-- the class in an expression, at token t, with its huge flag H -/
def XI (K : List (Nat × Nat)) (I : Nat → Nat → Int32) (J : Nat → Nat → Int64) (sb : Nat) (b : Nat → Nat) (n T : Nat) (B : BKD) (N : NMD) (f t : Nat) (H : Bool) : Prop :=
  CT I J kwC b n T t ∧ (OT K I ∧ CBC I J sb B ∧ NmC I J sb N) ∧ I 65 7 = zn f ∧ I 65 11 = 0 ∧ I 65 13 = b01 H
def XC (K : List (Nat × Nat)) (A : Nat → Nat → Option Nat) (sb : Nat) (b : Nat → Nat) (n T : Nat) (B : BKD) (N : NMD) (f o a c e d : Nat) (sp : Nat → Bool → EX) (g : Option Nat → Int32 → Mo Int32) : Prop :=
  ∀ (t : Nat) (H : Bool) (I : Nat → Nat → Int32) (J : Nat → Nat → Int64) (Q : Int32 → Hp → Prop), XI K I J sb b n T B N f t H →
    (∀ k s I' J', sp t H = Sum.inl (k, s) → XF a c e I J I' J' → I' 65 11 = zn k → CT I' J' kwC b n T s → Q 0 (K, I', J', A)) →
    (∀ r H' t' I' J', sp t H = Sum.inr (r, H', t') → XF a c e I J I' J' → XI K I' J' sb b n T B N f t' H' → (∀ i, i < 10 → J' o i = r i) → Q 1 (K, I', J', A)) → wp (g (some 65) (zn d)) Q (K, I, J, A)
section
variable {β : Type} {kw : Nat → Int64} {K : List (Nat × Nat)} {I I' : Nat → Nat → Int32} {J J' : Nat → Nat → Int64} {A : Nat → Nat → Option Nat} {w : WD}
variable {b : Nat → Nat} {n T t m p f sb a c e d : Nat} {B : BKD} {N : NMD} {at' : Nat → Bool → EX} {H : Bool}
theorem XF.rfl' : XF a c e I J I J := ⟨fun _ _ _ => rfl, fun _ _ _ _ _ => rfl, fun _ _ _ _ _ _ => rfl⟩
theorem XF.trans {I'' : Nat → Nat → Int32} {J'' : Nat → Nat → Int64} (h : XF a c e I J I' J') (g : XF a c e I' J' I'' J'') : XF a c e I J I'' J'' := ⟨fun x z1 z2 => (g.1 x z1 z2).trans (h.1 x z1 z2), fun j z1 z2 z3 z4 => (g.2.1 j z1 z2 z3 z4).trans (h.2.1 j z1 z2 z3 z4), fun x z1 z2 z3 z4 z5 => (g.2.2 x z1 z2 z3 z4 z5).trans (h.2.2 x z1 z2 z3 z4 z5)⟩
theorem XF.wk {a' c' e' : Nat} (h : XF a' c' e' I J I' J') (h1 : a ≤ a') (h2 : c ≤ c') (h3 : e ≤ e') : XF a c e I J I' J' := ⟨h.1, h.2.1, fun x z1 z2 z3 z4 z5 => h.2.2 x z1 z2 (by omega) (by omega) (by omega)⟩
theorem SF.xf (h : SF I J I' J') : XF a c e I J I' J' := ⟨fun x _ z => h.1 x z, fun j _ _ _ _ => by rw [h.1 65 (by decide)], fun x z _ _ _ _ => h.2.2 x z⟩
theorem XF.i {j : Nat} {v : Int32} (hj : j = 9 ∨ j = 10 ∨ j = 11 ∨ j = 13) : XF a c e I J (st2 I 65 j v) J := ⟨fun x z _ => st2_nb z, fun k z1 z2 z3 z4 => st2_nk (by omega), fun _ _ _ _ _ _ => rfl⟩
theorem XF.jj (h : ∀ x, x ≠ 73 → ¬ (a ≤ x ∧ x ≤ 83) → ¬ (c ≤ x ∧ x ≤ 93) → ¬ (e ≤ x ∧ x ≤ 103) → J' x = J x) : XF a c e I J I J' := ⟨fun _ _ _ => rfl, fun _ _ _ _ _ => rfl, fun x _ z2 z3 z4 z5 => h x z2 z3 z4 z5⟩
/-- the invariant goes with what is left alone -/
theorem XI.mv {t' : Nat} {H' : Bool} (hS : XS K A sb B N f) (h : XI K I J sb b n T B N f t H) (hF : XF a c e I J I' J') (hC : CT I' J' kwC b n T t') (h11 : I' 65 11 = 0) (h13 : I' 65 13 = b01 H') : XI K I' J' sb b n T B N f t' H' := by
  obtain ⟨cT, ⟨hO, cB, cN⟩, h7, _⟩ := h
  obtain ⟨hP, hsb, hk, _⟩ := hS
  refine ⟨hC, ⟨hO.ga Gr.rfl' (hF.1 0 (by omega) (by omega)) (hF.1 1 (by omega) (by omega)), cB.lo hk (fun x x1 x2 => ⟨hF.1 x (by omega) (by omega), hF.2.2 x (by omega) (by omega) (by omega) (by omega) (by omega)⟩), cN.lo (fun x x1 x2 => ⟨hF.1 x (by omega) (by omega), hF.2.2 x (by omega) (by omega) (by omega) (by omega) (by omega)⟩)⟩, ?_, h11, h13⟩
  rw [hF.2.1 7 (by decide) (by decide) (by decide) (by decide)]; exact h7
theorem XI.sf (hS : XS K A sb B N f) (h : XI K I J sb b n T B N f t H) (hF : SF I J I' J') (hC : CT I' J' kwC b n T (t + 1)) : XI K I' J' sb b n T B N f (t + 1) H := by
  have e : I' 65 = I 65 := hF.1 65 (by decide)
  exact h.mv hS (a := 0) (c := 0) (e := 0) hF.xf hC (by rw [e]; exact h.2.2.2.1) (by rw [e]; exact h.2.2.2.2)
theorem XI.z {H' : Bool} (hS : XS K A sb B N f) (h : XI K I J sb b n T B N f t H) : XI K (st2 I 65 13 (b01 H')) J sb b n T B N f t H' :=
  h.mv hS (a := 0) (c := 0) (e := 0) (XF.i (by omega)) (h.1.o (by decide)) ((st2_nk (by decide)).trans h.2.2.2.1) st2_at
theorem XI.j (hS : XS K A sb B N f) (h : XI K I J sb b n T B N f t H) (ha : 75 ≤ a) (hc : 85 ≤ c) (he : 95 ≤ e) (hJ : ∀ x, x ≠ 73 → ¬ (a ≤ x ∧ x ≤ 83) → ¬ (c ≤ x ∧ x ≤ 93) → ¬ (e ≤ x ∧ x ≤ 103) → J' x = J x) : XI K I J' sb b n T B N f t H :=
  h.mv hS (XF.jj hJ) (h.1.lo (fun _ _ _ => rfl) (fun x _ _ => hJ x (by omega) (by omega) (by omega) (by omega))) h.2.2.2.1 h.2.2.2.2
theorem hg01 {x : Bool} : zn (if x = true then 1 else 0) = b01 x := rfl
theorem t_x107 {α : Type} {Q : α → Hp → Prop} {G : Int32 → Mo α} {i : Nat} (hk : kk K 65 = (0, 3)) (w : wp (G (zn (i + 1))) Q (K, st2 I 65 13 1, J, A)) : wp (mBd (mPutZ 3 13 (some 65) (1 : Int32)) (fun _ => G (zn i + 1))) Q (K, I, J, A) := by
  refine b_putZ hk (by decide) (by decide) ?_
  rw [zn_succ]
  exact w
theorem x_prodL {gS gP gA : Option Nat → Int32 → Mo Int32} {gD : Option Nat → Int32 → Option Nat → Mo Int32} {Q : Int32 → Hp → Prop} (hd : d ≤ 8) (hS : XS K A sb B N f) (hat : XC K A sb b n T B N f (95 + d) (75 + (d + 1)) (85 + (d + 1)) (95 + d) d at' gA) :
    ∀ k i n0 t r H I J, k + i = 901 → k < n0 → XI K I J sb b n T B N f t H → (∀ j, j < 10 → J (85 + d) j = r j) →
    (∀ kk s I' J', prL b n (bfn B f) at' k r H t = Sum.inl (kk, s) → XF (75 + (d + 1)) (85 + d) (95 + d) I J I' J' → I' 65 11 = zn kk → CT I' J' kwC b n T s → Q 0 (K, I', J', A)) →
    (∀ r' H' t' I' J', prL b n (bfn B f) at' k r H t = Sum.inr (r', H', t') → XF (75 + (d + 1)) (85 + d) (95 + d) I J I' J' → XI K I' J' sb b n T B N f t' H' → (∀ j, j < 10 → J' (85 + d) j = r' j) → Q 1 (K, I', J', A)) →
    wp (lq1 (f_X3_readProduct_b36 gS gP gA gD (some 65) (zn d) (some (85 + d)) (some (95 + d))) n0 (zn i)) Q (K, I, J, A) := by
  have hS' := hS
  obtain ⟨hP, hsb, hkB, hkN, hNB, hf, h6⟩ := hS'
  have hP' := hP
  obtain ⟨hk, ⟨h0, h1, h2, h3, h4, h5⟩, hT, hR, d1, d2, d3, hBs⟩ := hP'
  have hf4 := hkB.1.1
  have hFS := (hBs.2.2.2.2.1 f (by omega)).2
  obtain ⟨_, _, hm1, hm2⟩ := pn_rng (hkB.1.2 f hf)
  have hph := phi_rng hm1 hm2
  have o1 : kk K (85 + d) = (2, 10) := by have := (d2.2 d (by omega)).2; rw [show 84 + 1 + d = 85 + d by omega] at this; exact this
  have o2 : kk K (95 + d) = (2, 10) := by have := (d3.2 d (by omega)).2; rw [show 94 + 1 + d = 95 + d by omega] at this; exact this
  intro k
  induction k with
  | zero =>
    intro i n0 t r H I J hki hn0 hI hr qe qs
    obtain ⟨n1, rfl⟩ : ∃ n1, n0 = n1 + 1 := ⟨n0 - 1, by omega⟩
    show wp (f_X3_readProduct_b36 gS gP gA gD (some 65) (zn d) (some (85 + d)) (some (95 + d)) (lq1 _ n1) (zn i)) Q (K, I, J, A)
    unfold f_X3_readProduct_b36
    exact wp_ifp (show zn i > zn 900 from lt_t (by omega)) (e_blame (k := 1) hk (qe 1 t _ _ rfl (XF.i (by omega)) st2_at (hI.1.o (by decide))))
  | succ k ih =>
    intro i n0 t r H I J hki hn0 hI hr qe qs
    obtain ⟨n1, rfl⟩ : ∃ n1, n0 = n1 + 1 := ⟨n0 - 1, by omega⟩
    show wp (f_X3_readProduct_b36 gS gP gA gD (some 65) (zn d) (some (85 + d)) (some (95 + d)) (lq1 (f_X3_readProduct_b36 gS gP gA gD (some 65) (zn d) (some (85 + d)) (some (95 + d))) n1) (zn i)) Q (K, I, J, A)
    unfold f_X3_readProduct_b36
    unfold prL at qe qs
    refine wp_ifn (show ¬ zn i > zn 900 from lt_f (by omega)) (b_getA hk h0 (b_ck hT.1 (b_eq (t_atSign (c := 42) hT hI.1) ?_)))
    by_cases hg : isG b n t 42 = true
    · rw [if_pos hg] at qe qs
      rw [hg]
      refine wp_ifp (by decide) (b_getA hk h0 (b_ck hT.1 (wp_bd (t_cstep hT hI.1 (by have := isG_k hg; omega) (fun I1 J1 f1 c1 => ?_)))))
      refine b_ck hk (wp_bd (hat (t + 1) H I1 J1 _ (hI.sf hS f1 c1) (fun kq s I2 J2 g2 F2 e2 c2 => ?_) (fun q1 H2 t2 I2 J2 g2 F2 X2 r2 => ?_)))
      · rw [g2] at qe
        exact wp_ifn (by decide) (wp_rt (qe kq s I2 J2 rfl (f1.xf.trans (F2.wk (by omega) (by omega) (by omega))) e2 c2))
      rw [g2] at qe qs
      dsimp only at qe qs
      have hFC := X2.2.1.2.1.2.1 f hf
      have rJ : J2 (85 + d) = J (85 + d) := by rw [F2.2.2 _ (by omega) (by omega) (by omega) (by omega) (by omega), f1.2.2 _ (by omega)]
      refine wp_ifp (by decide) (b_getA hk h1 (b_getA hk h6 (b_ck hFS.1 (b_eq (t_order hFS hFC) (b_ck hR.1 (wp_bd (t_multiply (x := 85 + d) (y := 95 + d) (o := 85 + d) X2.2.1.1 hR ⟨hm1, hm2⟩ o1 o2 o1 (by omega) (by omega) (by omega) (by omega) (fun J3 f3 v3 => ?_)))))))) 
      have ev : mul (bfn B f) (J2 (85 + d)) (J2 (95 + d)) = mul (bfn B f) r q1 := mul_congr (fun k hk => by rw [rJ]; exact hr k (by omega)) (fun k hk => r2 k (by omega))
      rw [ev] at v3
      have hjf : ∀ x, x ≠ 73 → ¬ (75 + (d + 1) ≤ x ∧ x ≤ 83) → ¬ (85 + d ≤ x ∧ x ≤ 93) → ¬ (95 + d ≤ x ∧ x ≤ 103) → J3 x = J2 x := fun x z1 z2 z3 z4 => f3 x z1 (by omega)
      have X3 : XI K I2 J3 sb b n T B N f t2 H2 := X2.j hS (by omega) (by omega) (by omega) hjf
      have F3 : XF (75 + (d + 1)) (85 + d) (95 + d) I J I2 J3 := f1.xf.trans ((F2.wk (by omega) (by omega) (by omega)).trans (XF.jj hjf))
      have hh : hug 10 (J3 (85 + d)) = hug 10 (mul (bfn B f) r q1) := hug_congr v3
      have go : ∀ H3, (H2 || hug 10 (mul (bfn B f) r q1)) = H3 → wp (lq1 (f_X3_readProduct_b36 gS gP gA gD (some 65) (zn d) (some (85 + d)) (some (95 + d))) n1 (zn (i + 1))) Q (K, st2 I2 65 13 (b01 H3), J3, A) := by
        intro H3 e3
        rw [e3] at qe qs
        exact ih (i + 1) n1 t2 _ H3 _ J3 (by omega) (by omega) (X3.z hS) v3 (fun kq s I4 J4 g4 F4 => qe kq s I4 J4 g4 (F3.trans ((XF.i (by omega)).trans F4))) (fun r' H' t' I4 J4 g4 F4 => qs r' H' t' I4 J4 g4 (F3.trans ((XF.i (by omega)).trans F4)))
      refine b_getIv hk X2.2.2.2.2 ?_
      cases hH : H2 with
      | true =>
        refine wp_ifp (by decide) ?_
        unfold f_X3_readProduct_j107
        exact t_x107 hk (go true (by rw [hH]; rfl))
      | false =>
        refine wp_ifn (by decide) (b_eq (t_isHuge o1 (by omega)) ?_)
        rw [hh]
        cases hx : hug 10 (mul (bfn B f) r q1) with
        | true =>
          refine wp_ifn (by decide) ?_
          unfold f_X3_readProduct_j107
          exact t_x107 hk (go true (by rw [hH, hx]; rfl))
        | false =>
          refine wp_ifp rfl (b_putZ hk (by decide) (by decide) ?_)
          rw [zn_succ]
          exact go false (by rw [hH, hx]; rfl)
    · rw [if_neg hg] at qs
      rw [Bool.eq_false_iff.mpr hg]
      exact wp_ifn (by decide) (wp_rt (qs r H t I J rfl XF.rfl' hI hr))
theorem x_prod {gS gP gA : Option Nat → Int32 → Mo Int32} {gD : Option Nat → Int32 → Option Nat → Mo Int32} (hd : d ≤ 8) (hS : XS K A sb B N f) (hat : XC K A sb b n T B N f (95 + d) (75 + (d + 1)) (85 + (d + 1)) (95 + d) d at' gA) :
    XC K A sb b n T B N f (85 + d) (75 + (d + 1)) (85 + d) (95 + d) d (prF b n (bfn B f) at') (fb_X3_readProduct gS gP gA gD) := by
  intro t H I J Q hI qe qs
  have hS' := hS
  obtain ⟨hP, hsb, hkB, hkN, hNB, hf, h6⟩ := hS'
  have hP' := hP
  obtain ⟨hk, ⟨h0, h1, h2, h3, h4, h5⟩, hT, hR, d1, d2, d3, hBs⟩ := hP'
  have a1 : A 84 d = some (85 + d) := by have := (d2.2 d (by omega)).1; rw [show 84 + 1 + d = 85 + d by omega] at this; exact this
  have a2 : A 94 d = some (95 + d) := by have := (d3.2 d (by omega)).1; rw [show 94 + 1 + d = 95 + d by omega] at this; exact this
  have o1 : kk K (85 + d) = (2, 10) := by have := (d2.2 d (by omega)).2; rw [show 84 + 1 + d = 85 + d by omega] at this; exact this
  have o2 : kk K (95 + d) = (2, 10) := by have := (d3.2 d (by omega)).2; rw [show 94 + 1 + d = 95 + d by omega] at this; exact this
  unfold fb_X3_readProduct
  unfold prF at qe qs
  refine b_getA hk h3 (b_eq (t_rowAt d2.1 (by omega) (by omega)) (b_getA hk h4 (b_eq (t_rowAt d3.1 (by omega) (by omega)) ?_)))
  rw [a1, a2]
  refine b_ck hk (wp_bd (hat t H I J _ hI (fun kq s I2 J2 g2 F2 e2 c2 => ?_) (fun q1 H2 t2 I2 J2 g2 F2 X2 r2 => ?_)))
  · rw [g2] at qe
    exact wp_ifn (by decide) (wp_rt (qe kq s I2 J2 rfl (F2.wk (by omega) (by omega) (by omega)) e2 c2))
  rw [g2] at qe qs
  dsimp only at qe qs
  refine wp_ifp (by decide) (wp_bd (t_copy o2 o1 (by omega) (by omega) (by omega) (by omega) (fun J3 f3 v3 => ?_)))
  have hjf : ∀ x, x ≠ 73 → ¬ (75 + (d + 1) ≤ x ∧ x ≤ 83) → ¬ (85 + d ≤ x ∧ x ≤ 93) → ¬ (95 + d ≤ x ∧ x ≤ 103) → J3 x = J2 x := fun x z1 z2 z3 z4 => f3 x (by omega)
  have F3 : XF (75 + (d + 1)) (85 + d) (95 + d) I J I2 J3 := (F2.wk (by omega) (by omega) (by omega)).trans (XF.jj hjf)
  unfold f_X3_readProduct_l36
  exact x_prodL hd hS hat 901 0 fuel t2 q1 H2 I2 J3 (by omega) (by unfold fuel; omega) (X2.j hS (by omega) (by omega) (by omega) hjf) (fun i hi => by rw [v3 i hi, if_pos hi]; exact r2 i hi) (fun kq s I4 J4 g4 F4 => qe kq s I4 J4 g4 (F3.trans F4)) (fun r' H' t' I4 J4 g4 F4 => qs r' H' t' I4 J4 g4 (F3.trans F4))
end
