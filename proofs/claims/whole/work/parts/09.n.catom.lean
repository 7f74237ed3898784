/-! ===== expressions: the class's atoms ===== -/
def sTwo (b : Nat → Nat) (n m t : Nat) : (Nat × Nat) ⊕ (Nat × Nat) :=
  if kd' kwC b n t ≠ 2 then Sum.inl (1, t) else if inR b n t 0 (m - 1) = false then Sum.inl (4, t)
    else if isG b n (t + 1) 44 = false then Sum.inl (1, t + 1)
    else if kd' kwC b n (t + 2) ≠ 2 then Sum.inl (1, t + 2) else if inR b n (t + 2) 0 (m - 1) = false then Sum.inl (4, t + 2)
    else Sum.inr (whN b n t, whN b n (t + 2))
section
variable {β : Type} {kw : Nat → Int64} {K : List (Nat × Nat)} {I I' : Nat → Nat → Int32} {J J' : Nat → Nat → Int64} {A : Nat → Nat → Option Nat} {w : WD}
variable {b : Nat → Nat} {n T t m p f sb a c e d : Nat} {B : BKD} {N : NMD} {at' : Nat → Bool → EX} {H : Bool}
theorem t_two {Q : Int32 → Hp → Prop} (hS : XS K A sb B N f) (hI : XI K I J sb b n T B N f t H)
    (qe : ∀ k s I' J', sTwo b n (bfn B f) t = Sum.inl (k, s) → XF 84 94 104 I J I' J' → (∀ x, x ≠ 66 → J' x = J x) → I' 65 11 = zn k → CT I' J' kwC b n T s → Q 0 (K, I', J', A))
    (qs : ∀ x y I' J', sTwo b n (bfn B f) t = Sum.inr (x, y) → XF 84 94 104 I J I' J' → (∀ x, x ≠ 66 → J' x = J x) → I' 65 13 = I 65 13 → I' 65 11 = I 65 11 → CT I' J' kwC b n T (t + 3) → I' 65 9 = zn y → y < 1000 → I' 65 10 = zn x → x < 1000 → Q 1 (K, I', J', A)) : wp (f_X3_takeTwoCharacters (some 65)) Q (K, I, J, A) := by
  have hS' := hS
  obtain ⟨hP, hsb, hkB, hkN, hNB, hf, h6⟩ := hS'
  obtain ⟨hk, ⟨h0, h1, h2, h3, h4, h5⟩, hT, hR, d1, d2, d3, hBs⟩ := hP
  have hf4 := hkB.1.1
  have hFS := (hBs.2.2.2.2.1 f (by omega)).2
  obtain ⟨_, _, hm1, hm2⟩ := pn_rng (hkB.1.2 f hf)
  obtain ⟨cT, ⟨hO, cB, cN⟩, h7, h11, h13⟩ := hI
  have hFC := cB.2.1 f hf
  unfold f_X3_takeTwoCharacters
  unfold sTwo at qe qs
  refine b_getA hk h6 (b_ck hFS.1 (b_eq (t_order hFS hFC) (b_nm (b_getA hk h0 (b_ck hT.1 ?_)))))
  rw [zn_pred1 (by omega)]
  refine b_eq (t_atWholeWithin (lo := 0) hT cT (by omega) (by omega)) (b_ck hk (wp_bd (t_takeWhole hk h0 hT cT (fun g1 g2 I1 J1 f1 c1 => ?_) (fun g1 g2 => ?_) (fun g1 => ?_))))
  rotate_left
  · rw [if_neg (fun q => q g1), if_pos (show inR b n t 0 (bfn B f - 1) = false from g2)] at qe
    exact wp_ifn (by decide) (wp_rt (qe 4 t _ _ rfl (XF.i (by omega)) (fun _ _ => rfl) st2_at (cT.o (by decide))))
  · rw [if_pos g1] at qe
    exact wp_ifn (by decide) (wp_rt (qe 1 t _ _ rfl (XF.i (by omega)) (fun _ _ => rfl) st2_at (cT.o (by decide))))
  rw [if_neg (fun q => q g1), if_neg (by rw [show inR b n t 0 (bfn B f - 1) = true from g2]; decide)] at qe qs
  have F1 : XF 84 94 104 I J I1 J1 := (XF.i (j := 9) (by omega)).trans f1.xf
  have i9 : I1 65 9 = zn (whN b n t) := by rw [f1.1 65 (by decide), st2_at]
  have w1 : whN b n t < 1000 := by have := (wh_ok g1).2; omega
  refine wp_ifp (by decide) (b_getIv hk i9 (b_putI hk (by decide) ?_))
  have c1' := c1.o (x := 65) (j := 10) (v := zn (whN b n t)) (by decide)
  have F1' : XF 84 94 104 I J (st2 I1 65 10 (zn (whN b n t))) J1 := F1.trans (XF.i (by omega))
  refine b_ck hk (wp_bd (t_takeSign (c := 44) hk h0 hT c1' (fun g3 I2 J2 f2 c2 => ?_) (fun g3 => ?_)))
  rotate_left
  · rw [if_pos g3] at qe
    exact wp_ifp rfl (wp_rt (qe 1 (t + 1) _ _ rfl (F1'.trans (XF.i (by omega))) (fun x z => f1.2.2 x z) st2_at (c1'.o (by decide))))
  rw [if_neg (by rw [g3]; decide)] at qe qs
  have F2 : XF 84 94 104 I J I2 J2 := F1'.trans f2.xf
  have i210 : I2 65 10 = zn (whN b n t) := by rw [f2.1 65 (by decide), st2_at]
  have jj2 : ∀ x, x ≠ 66 → J2 x = J x := fun x z => by rw [f2.2.2 x z, f1.2.2 x z]
  refine wp_ifn (by decide) (b_getA hk h0 (b_ck hT.1 (b_eq (t_atWholeWithin (lo := 0) hT c2 (by omega) (by omega)) (b_ck hk (wp_bd (t_takeWhole hk h0 hT c2 (fun g4 g5 I3 J3 f3 c3 => ?_) (fun g4 g5 => ?_) (fun g4 => ?_)))))))
  rotate_left
  · rw [if_neg (fun q => q g4), if_pos (show inR b n (t + 2) 0 (bfn B f - 1) = false from g5)] at qe
    exact wp_ifp rfl (wp_rt (qe 4 (t + 2) _ _ rfl (F2.trans (XF.i (by omega))) jj2 st2_at (c2.o (by decide))))
  · rw [if_pos g4] at qe
    exact wp_ifp rfl (wp_rt (qe 1 (t + 2) _ _ rfl (F2.trans (XF.i (by omega))) jj2 st2_at (c2.o (by decide))))
  rw [if_neg (fun q => q g4), if_neg (by rw [show inR b n (t + 2) 0 (bfn B f - 1) = true from g5]; decide)] at qs
  have w2 : whN b n (t + 2) < 1000 := by have : whN b n (t + 2) ≤ 999 := (wh_ok g4).2; omega
  refine wp_ifn (by decide) (wp_rt (qs _ _ I3 J3 rfl (F2.trans ((XF.i (j := 9) (by omega)).trans f3.xf)) (fun x z => by rw [f3.2.2 x z]; exact jj2 x z) ?_ ?_ c3 ?_ w2 ?_ w1))
  · rw [f3.1 65 (by decide), st2_nk (by decide), f2.1 65 (by decide), st2_nk (by decide), f1.1 65 (by decide), st2_nk (by decide)]
  · rw [f3.1 65 (by decide), st2_nk (by decide), f2.1 65 (by decide), st2_nk (by decide), f1.1 65 (by decide), st2_nk (by decide)]
  · rw [f3.1 65 (by decide), st2_at]
  · rw [f3.1 65 (by decide), st2_nk (by decide)]; exact i210
theorem x_j166s {gS gP gA : Option Nat → Int32 → Mo Int32} {gD : Option Nat → Int32 → Option Nat → Mo Int32} {Q : Int32 → Hp → Prop} {r : Nat → Int64} (hd : d ≤ 8) (hS : XS K A sb B N f) (h13 : I 65 13 = b01 H) (hr : ∀ i, i < 10 → J (95 + d) i = r i) (q : Q 1 (K, st2 I 65 13 (b01 (H || hug 10 r)), J, A)) : wp (f_X3_readAtom_j166 gS gP gA gD (some 65) (some (95 + d)) 1) Q (K, I, J, A) := by
  obtain ⟨⟨hk, _, _, _, _, _, d3, _⟩, _⟩ := hS
  have o2 : kk K (95 + d) = (2, 10) := by have := (d3.2 d (by omega)).2; rw [show 94 + 1 + d = 95 + d by omega] at this; exact this
  have hh : hug 10 (J (95 + d)) = hug 10 r := hug_congr hr
  unfold f_X3_readAtom_j166
  refine b_getIv hk h13 ?_
  cases hH : H with
  | true =>
    rw [hH] at q
    exact wp_ifp (by decide) (b_putZ hk (by decide) (by decide) (wp_rq (by decide) (wp_rt q)))
  | false =>
    rw [hH] at q
    refine wp_ifn (by decide) (b_eq (t_isHuge o2 (by omega)) ?_)
    rw [hh]
    cases hx : hug 10 r with
    | true =>
      rw [hx] at q
      exact wp_ifn (by decide) (b_putZ hk (by decide) (by decide) (wp_rq (by decide) (wp_rt q)))
    | false =>
      rw [hx] at q
      exact wp_ifp rfl (b_putZ hk (by decide) (by decide) (wp_rq (by decide) (wp_rt q)))
theorem x_j166e {gS gP gA : Option Nat → Int32 → Mo Int32} {gD : Option Nat → Int32 → Option Nat → Mo Int32} {Q : Int32 → Hp → Prop} (hd : d ≤ 8) (hS : XS K A sb B N f) (q : ∀ v, Q 0 (K, st2 I 65 13 v, J, A)) : wp (f_X3_readAtom_j166 gS gP gA gD (some 65) (some (95 + d)) 0) Q (K, I, J, A) := by
  obtain ⟨⟨hk, _, _, _, _, _, d3, _⟩, _⟩ := hS
  have o2 : kk K (95 + d) = (2, 10) := by have := (d3.2 d (by omega)).2; rw [show 94 + 1 + d = 95 + d by omega] at this; exact this
  unfold f_X3_readAtom_j166
  refine b_getI hk ?_
  by_cases hv : I 65 13 = 0
  · refine wp_ifn (fun h => h hv) (b_eq (t_isHuge o2 (by omega)) ?_)
    cases hx : hug 10 (J (95 + d)) with
    | true => exact wp_ifn (by decide) (b_putZ hk (by decide) (by decide) (wp_rq (by decide) (wp_rt (q _))))
    | false => exact wp_ifp rfl (b_putZ hk (by decide) (by decide) (wp_rq (by decide) (wp_rt (q _))))
  · exact wp_ifp hv (b_putZ hk (by decide) (by decide) (wp_rq (by decide) (wp_rt (q _))))
theorem t_letName {Q : Int32 → Hp → Prop} (hd : d ≤ 8) (hS : XS K A sb B N f) (hI : XI K I J sb b n T B N f t H) (h5 : kd' kwC b n t = 5)
    (q2 : (∀ l, fnN N (vl kwC b n t) 2 = some l → ¬ blf B l = f) → Q 0 (K, st2 I 65 11 (zn 2), J, A))
    (q1 : ∀ l, fnN N (vl kwC b n t) 2 = some l → blf B l = f → ∀ I' J' J1, SF I J1 I' J' → (∀ x, x ≠ 95 + d → J1 x = J x) → (∀ i, i < 10 → J1 (95 + d) i = blr B l i) → CT I' J' kwC b n T (t + 1) → Q 1 (K, I', J', A)) : wp (f_X3_readLetName (some 65) (some (95 + d))) Q (K, I, J, A) := by
  have hS' := hS
  obtain ⟨hP, hsb, hkB, hkN, hNB, hf, h6⟩ := hS'
  obtain ⟨hk, ⟨h0, h1, h2, h3, h4, h5'⟩, hT, hR, d1, d2, d3, hBs⟩ := hP
  have o2 : kk K (95 + d) = (2, 10) := by have := (d3.2 d (by omega)).2; rw [show 94 + 1 + d = 95 + d by omega] at this; exact this
  obtain ⟨cT, ⟨hO, cB, cN⟩, h7, h11, h13⟩ := hI
  have hl8 := hkB.2.2.1
  have hf4 := hkB.1.1
  unfold f_X3_readLetName
  refine b_getA hk h5' (b_getA hk h0 (b_ck hT.1 (b_eq (t_nameNow hT cT h5) (b_ck hBs.1 (b_eq (t_find (s := 2) hBs cN hkN (by decide)) ?_)))))
  cases hfn : fnN N (vl kwC b n t) 2 with
  | none => exact wp_ifp (by decide) (e_blame (k := 2) hk (q2 (fun l hl => by rw [hfn] at hl; exact absurd hl (by simp))))
  | some l =>
    have hl : l < bnl B := by
      have hf' := hfn
      unfold fnN at hf'
      cases hr : rk N (vl kwC b n t) with
      | none => rw [hr] at hf'; exact absurd hf' (by simp)
      | some k =>
        rw [hr] at hf'
        dsimp only at hf'
        by_cases hs : (N.2 k).2.1 = 2
        · rw [if_pos hs] at hf'
          have e : (N.2 k).2.2 = l := by simpa using hf'
          rw [← e]
          exact (hNB k (rk_lt hr)).2.2 hs
        · rw [if_neg hs] at hf'; exact absurd hf' (by simp)
    have hlf := (hkB.2.2.2 l hl).1
    refine wp_ifn (lt_f (b := 0) (by omega)) (b_getA hk h5' (b_ck hBs.1 ?_))
    show wp (mBd (f_X0_letFieldAt (some sb) (zn l)) _) Q (K, I, J, A)
    rw [zn_zi l]
    refine b_eq (t_letFieldAt hBs cB hkB (by omega)) ?_
    rw [if_pos (show 0 ≤ (l : Int) ∧ (l : Int) < (bnl B : Int) by omega), Int.toNat_natCast]
    refine b_getIv hk h7 ?_
    rw [← zn_zi (blf B l)]
    refine wp_ifq (zn_inj (by omega) (by omega)) ?_
    by_cases hlb : blf B l = f
    · refine wp_ifp hlb (b_getA hk h5' (b_ck hBs.1 (b_eq (t_letRowAt hBs cB hkB hl) ?_)))
      have ok := (hBs.2.2.2.1 l (by omega)).2
      refine wp_bd (t_copy ok o2 (by omega) (by omega) (by omega) (by omega) (fun J1 f1 v1 => ?_))
      have cT1 : CT I J1 kwC b n T t := cT.lo (fun _ _ _ => rfl) (fun x _ _ => f1 x (by omega))
      refine b_getA hk h0 (b_ck hT.1 (wp_bd (t_cstep hT cT1 (by omega) (fun I2 J2 f2 c2 => wp_rt (q1 l hfn hlb I2 J2 J1 f2 f1 (fun i hi => ?_) c2)))))
      rw [v1 i hi, if_pos hi]
      exact (cB.2.2.2 l hl).2 i hi
    · exact wp_ifn hlb (e_blame (k := 2) hk (q2 (fun l' hl' => by
        rw [hfn] at hl'
        have : l = l' := by simpa using hl'
        rw [← this]; exact hlb)))
end
