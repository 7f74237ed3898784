/-! ===== expressions: the class's sums ===== -/
section
variable {β : Type} {kw : Nat → Int64} {K : List (Nat × Nat)} {I I' : Nat → Nat → Int32} {J J' : Nat → Nat → Int64} {A : Nat → Nat → Option Nat} {w : WD}
variable {b : Nat → Nat} {n T t m p f sb a c e d : Nat} {B : BKD} {N : NMD} {at' : Nat → Bool → EX} {H : Bool}
theorem t_s123 {α : Type} {Q : α → Hp → Prop} {G : Int32 → Mo α} {i : Nat} (hk : kk K 65 = (0, 3)) (w : wp (G (zn (i + 1))) Q (K, st2 I 65 13 1, J, A)) : wp (mBd (mPutZ 3 13 (some 65) (1 : Int32)) (fun _ => G (zn i + 1))) Q (K, I, J, A) := t_x107 hk w
theorem x_sumL {gS gP gA : Option Nat → Int32 → Mo Int32} {gD : Option Nat → Int32 → Option Nat → Mo Int32} {Q : Int32 → Hp → Prop} {pr : Nat → Bool → EX} (hd : d ≤ 8) (hS : XS K A sb B N f) (hpr : XC K A sb b n T B N f (85 + d) (75 + (d + 1)) (85 + d) (95 + d) d pr gP) :
    ∀ k i n0 t r H I J, k + i = 901 → k < n0 → XI K I J sb b n T B N f t H → (∀ j, j < 10 → J (75 + d) j = r j) →
    (∀ kk s I' J', suL b n pr k r H t = Sum.inl (kk, s) → XF (75 + d) (85 + d) (95 + d) I J I' J' → I' 65 11 = zn kk → CT I' J' kwC b n T s → Q 0 (K, I', J', A)) →
    (∀ r' H' t' I' J', suL b n pr k r H t = Sum.inr (r', H', t') → XF (75 + d) (85 + d) (95 + d) I J I' J' → XI K I' J' sb b n T B N f t' H' → (∀ j, j < 10 → J' (75 + d) j = r' j) → Q 1 (K, I', J', A)) →
    wp (lq1 (f_X3_readSum_b36 gS gP gA gD (some 65) (zn d) (some (75 + d)) (some (85 + d))) n0 (zn i)) Q (K, I, J, A) := by
  have hS' := hS
  obtain ⟨hP, hsb, hkB, hkN, hNB, hf, h6⟩ := hS'
  have hP' := hP
  obtain ⟨hk, ⟨h0, h1, h2, h3, h4, h5⟩, hT, hR, d1, d2, d3, hBs⟩ := hP'
  have hf4 := hkB.1.1
  have o0 : kk K (75 + d) = (2, 10) := by have := (d1.2 d (by omega)).2; rw [show 74 + 1 + d = 75 + d by omega] at this; exact this
  have o1 : kk K (85 + d) = (2, 10) := by have := (d2.2 d (by omega)).2; rw [show 84 + 1 + d = 85 + d by omega] at this; exact this
  intro k
  induction k with
  | zero =>
    intro i n0 t r H I J hki hn0 hI hr qe qs
    obtain ⟨n1, rfl⟩ : ∃ n1, n0 = n1 + 1 := ⟨n0 - 1, by omega⟩
    show wp (f_X3_readSum_b36 gS gP gA gD (some 65) (zn d) (some (75 + d)) (some (85 + d)) (lq1 _ n1) (zn i)) Q (K, I, J, A)
    unfold f_X3_readSum_b36
    exact wp_ifp (show zn i > zn 900 from lt_t (by omega)) (e_blame (k := 1) hk (qe 1 t _ _ rfl (XF.i (by omega)) st2_at (hI.1.o (by decide))))
  | succ k ih =>
    intro i n0 t r H I J hki hn0 hI hr qe qs
    obtain ⟨n1, rfl⟩ : ∃ n1, n0 = n1 + 1 := ⟨n0 - 1, by omega⟩
    show wp (f_X3_readSum_b36 gS gP gA gD (some 65) (zn d) (some (75 + d)) (some (85 + d)) (lq1 (f_X3_readSum_b36 gS gP gA gD (some 65) (zn d) (some (75 + d)) (some (85 + d))) n1) (zn i)) Q (K, I, J, A)
    unfold f_X3_readSum_b36
    unfold suL at qe qs
    refine wp_ifn (show ¬ zn i > zn 900 from lt_f (by omega)) (b_getA hk h0 (b_ck hT.1 (b_eq (t_atSign (c := 45) hT hI.1) ?_)))
    have main : (isG b n t 45 || isG b n t 43) = true → wp (f_X3_readSum_j74 gS gP gA gD (lq1 (f_X3_readSum_b36 gS gP gA gD (some 65) (zn d) (some (75 + d)) (some (85 + d))) n1) (some 65) (zn d) (some (75 + d)) (some (85 + d)) (zn i) (b01 (isG b n t 45))) Q (K, I, J, A) := by
      intro hg
      rw [if_pos hg] at qe qs
      have hk3 : kd' kwC b n t = 3 := by
        rcases (Bool.or_eq_true _ _).mp hg with h | h
        · exact isG_k h
        · exact isG_k h
      unfold f_X3_readSum_j74
      refine b_getA hk h0 (b_ck hT.1 (wp_bd (t_cstep hT hI.1 (by omega) (fun I1 J1 f1 c1 => ?_))))
      refine b_ck hk (wp_bd (hpr (t + 1) H I1 J1 _ (hI.sf hS f1 c1) (fun kq s I2 J2 g2 F2 e2 c2 => ?_) (fun q1 H2 t2 I2 J2 g2 F2 X2 r2 => ?_)))
      · rw [g2] at qe
        exact wp_ifn (by decide) (wp_rt (qe kq s I2 J2 rfl (f1.xf.trans (F2.wk (by omega) (by omega) (by omega))) e2 c2))
      rw [g2] at qe qs
      dsimp only at qe qs
      have rJ : J2 (75 + d) = J (75 + d) := by rw [F2.2.2 _ (by omega) (by omega) (by omega) (by omega) (by omega), f1.2.2 _ (by omega)]
      have fin : ∀ (kc : Int64), (if isG b n t 45 = true then (-1 : Int64) else 1) = kc → wp (f_X3_readSum_j105 gS gP gA gD (lq1 (f_X3_readSum_b36 gS gP gA gD (some 65) (zn d) (some (75 + d)) (some (85 + d))) n1) (some 65) (zn d) (some (75 + d)) (some (85 + d)) (zn i) kc (some (85 + d)) (some (75 + d))) Q (K, I2, J2, A) := by
        intro kc hkc
        unfold f_X3_readSum_j105
        refine wp_bd (t_addTimes o1 o0 (by omega) (by omega) (by omega) (fun J3 f3 v3 => ?_))
        have v3' : ∀ i, i < 10 → J3 (75 + d) i = adt r q1 (isG b n t 45) i := fun i hi => by
          rw [v3 i hi, rJ, hr i hi, r2 i hi]
          unfold adt
          rw [hkc]
        have hjf : ∀ x, x ≠ 73 → ¬ (75 + d ≤ x ∧ x ≤ 83) → ¬ (85 + d ≤ x ∧ x ≤ 93) → ¬ (95 + d ≤ x ∧ x ≤ 103) → J3 x = J2 x := fun x z1 z2 z3 z4 => f3 x (by omega)
        have X3 : XI K I2 J3 sb b n T B N f t2 H2 := X2.j hS (by omega) (by omega) (by omega) hjf
        have F3 : XF (75 + d) (85 + d) (95 + d) I J I2 J3 := f1.xf.trans ((F2.wk (by omega) (by omega) (by omega)).trans (XF.jj hjf))
        have hh : hug 10 (J3 (75 + d)) = hug 10 (adt r q1 (isG b n t 45)) := hug_congr v3'
        have go : ∀ H3, (H2 || hug 10 (adt r q1 (isG b n t 45))) = H3 → wp (lq1 (f_X3_readSum_b36 gS gP gA gD (some 65) (zn d) (some (75 + d)) (some (85 + d))) n1 (zn (i + 1))) Q (K, st2 I2 65 13 (b01 H3), J3, A) := by
          intro H3 e3
          rw [e3] at qe qs
          exact ih (i + 1) n1 t2 _ H3 _ J3 (by omega) (by omega) (X3.z hS) v3' (fun kq s I4 J4 g4 F4 => qe kq s I4 J4 g4 (F3.trans ((XF.i (by omega)).trans F4))) (fun r' H' t' I4 J4 g4 F4 => qs r' H' t' I4 J4 g4 (F3.trans ((XF.i (by omega)).trans F4)))
        refine b_getIv hk X2.2.2.2.2 ?_
        cases hH : H2 with
        | true =>
          refine wp_ifp (by decide) ?_
          unfold f_X3_readSum_j123
          exact t_x107 hk (go true (by rw [hH]; rfl))
        | false =>
          refine wp_ifn (by decide) (b_eq (t_isHuge o0 (by omega)) ?_)
          rw [hh]
          cases hx : hug 10 (adt r q1 (isG b n t 45)) with
          | true =>
            refine wp_ifn (by decide) ?_
            unfold f_X3_readSum_j123
            exact t_x107 hk (go true (by rw [hH, hx]; rfl))
          | false =>
            refine wp_ifp rfl (b_putZ hk (by decide) (by decide) ?_)
            rw [zn_succ]
            exact go false (by rw [hH, hx]; rfl)
      refine wp_ifp (by decide) ?_
      cases h45 : isG b n t 45 with
      | true => exact wp_ifn (by decide) (fin (-1) (by rw [h45]; rfl))
      | false => exact wp_ifp rfl (fin 1 (by rw [h45]; rfl))
    cases h45 : isG b n t 45 with
    | true =>
      rw [h45] at main
      exact wp_ifp (by decide) (main rfl)
    | false =>
      rw [h45] at main
      refine wp_ifn (by decide) (b_getA hk h0 (b_ck hT.1 (b_eq (t_atSign (c := 43) hT hI.1) ?_)))
      cases h43 : isG b n t 43 with
      | true => exact wp_ifp (by decide) (main (by rw [h43]; rfl))
      | false =>
        rw [h45, h43, if_neg (by decide)] at qs
        exact wp_ifn (by decide) (wp_rt (qs r H t I J rfl XF.rfl' hI hr))
theorem x_sum {gS gP gA : Option Nat → Int32 → Mo Int32} {gD : Option Nat → Int32 → Option Nat → Mo Int32} {pr : Nat → Bool → EX} (hd : d ≤ 8) (hS : XS K A sb B N f) (hpr : XC K A sb b n T B N f (85 + d) (75 + (d + 1)) (85 + d) (95 + d) d pr gP) :
    XC K A sb b n T B N f (75 + d) (75 + d) (85 + d) (95 + d) d (suF b n pr) (fb_X3_readSum gS gP gA gD) := by
  intro t H I J Q hI qe qs
  have hS' := hS
  obtain ⟨hP, hsb, hkB, hkN, hNB, hf, h6⟩ := hS'
  have hP' := hP
  obtain ⟨hk, ⟨h0, h1, h2, h3, h4, h5⟩, hT, hR, d1, d2, d3, hBs⟩ := hP'
  have a0 : A 74 d = some (75 + d) := by have := (d1.2 d (by omega)).1; rw [show 74 + 1 + d = 75 + d by omega] at this; exact this
  have a1 : A 84 d = some (85 + d) := by have := (d2.2 d (by omega)).1; rw [show 84 + 1 + d = 85 + d by omega] at this; exact this
  have o0 : kk K (75 + d) = (2, 10) := by have := (d1.2 d (by omega)).2; rw [show 74 + 1 + d = 75 + d by omega] at this; exact this
  have o1 : kk K (85 + d) = (2, 10) := by have := (d2.2 d (by omega)).2; rw [show 84 + 1 + d = 85 + d by omega] at this; exact this
  unfold fb_X3_readSum
  unfold suF at qe qs
  refine b_getA hk h2 (b_eq (t_rowAt d1.1 (by omega) (by omega)) (b_getA hk h3 (b_eq (t_rowAt d2.1 (by omega) (by omega)) ?_)))
  rw [a0, a1]
  refine b_ck hk (wp_bd (hpr t H I J _ hI (fun kq s I2 J2 g2 F2 e2 c2 => ?_) (fun q1 H2 t2 I2 J2 g2 F2 X2 r2 => ?_)))
  · rw [g2] at qe
    exact wp_ifn (by decide) (wp_rt (qe kq s I2 J2 rfl (F2.wk (by omega) (by omega) (by omega)) e2 c2))
  rw [g2] at qe qs
  dsimp only at qe qs
  refine wp_ifp (by decide) (wp_bd (t_copy o1 o0 (by omega) (by omega) (by omega) (by omega) (fun J3 f3 v3 => ?_)))
  have hjf : ∀ x, x ≠ 73 → ¬ (75 + d ≤ x ∧ x ≤ 83) → ¬ (85 + d ≤ x ∧ x ≤ 93) → ¬ (95 + d ≤ x ∧ x ≤ 103) → J3 x = J2 x := fun x z1 z2 z3 z4 => f3 x (by omega)
  have F3 : XF (75 + d) (85 + d) (95 + d) I J I2 J3 := (F2.wk (by omega) (by omega) (by omega)).trans (XF.jj hjf)
  unfold f_X3_readSum_l36
  exact x_sumL hd hS hpr 901 0 fuel t2 q1 H2 I2 J3 (by omega) (by unfold fuel; omega) (X2.j hS (by omega) (by omega) (by omega) hjf) (fun i hi => by rw [v3 i hi, if_pos hi]; exact r2 i hi) (fun kq s I4 J4 g4 F4 => qe kq s I4 J4 g4 (F3.trans F4)) (fun r' H' t' I4 J4 g4 F4 => qs r' H' t' I4 J4 g4 (F3.trans F4))
end
