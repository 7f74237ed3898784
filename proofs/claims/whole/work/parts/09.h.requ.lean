/-! ===== an equation's terms: the reference ===== -/
section
variable {β : Type} {kw : Nat → Int64} {K : List (Nat × Nat)} {I I' : Nat → Nat → Int32} {J J' : Nat → Nat → Int64} {A : Nat → Nat → Option Nat} {w : WD}
variable {b : Nat → Nat} {n T t rb m e : Nat} {B : BKD} {N : NMD}
/-- what reading an equation's terms may change -/
def REf (rb e : Nat) (I : Nat → Nat → Int32) (J : Nat → Nat → Int64) (I' : Nat → Nat → Int32) (J' : Nat → Nat → Int64) : Prop :=
  (∀ x, x ≠ 224 → x ≠ rb + 5 → x ≠ rb + 6 → I' x = I x) ∧ (∀ j, j < 3 * e → I' (rb + 5) j = I (rb + 5) j ∧ I' (rb + 6) j = I (rb + 6) j) ∧ (∀ j, (j < 10 ∨ 16 < j) → I' 224 j = I 224 j) ∧ (∀ x, x ≠ 224 → J' x = J x) ∧ ∀ j, j ≠ 17 → J' 224 j = J 224 j
theorem RW.ref (h : RW I J I' J') (hb : 236 ≤ rb) : REf rb e I J I' J' := ⟨fun x a _ _ => h.1 x a, fun j _ => ⟨by rw [h.1 _ (by omega)], by rw [h.1 _ (by omega)]⟩, h.2.1, h.2.2.1, h.2.2.2⟩
theorem REf.trans {I'' : Nat → Nat → Int32} {J'' : Nat → Nat → Int64} (h : REf rb e I J I' J') (g : REf rb e I' J' I'' J'') : REf rb e I J I'' J'' :=
  ⟨fun x a a' a'' => (g.1 x a a' a'').trans (h.1 x a a' a''), fun j hj => ⟨(g.2.1 j hj).1.trans (h.2.1 j hj).1, (g.2.1 j hj).2.trans (h.2.1 j hj).2⟩, fun j hj => (g.2.2.1 j hj).trans (h.2.2.1 j hj), fun x a => (g.2.2.2.1 x a).trans (h.2.2.2.1 x a), fun j hj => (g.2.2.2.2 j hj).trans (h.2.2.2.2 j hj)⟩
theorem REf.st {m' : Nat} {x y : Int32} (hb : 236 ≤ rb) : REf rb e I J (st2 (st2 I (rb + 5) (3 * e + m') x) (rb + 6) (3 * e + m') y) J := by
  refine ⟨fun z a a' a'' => by rw [st2_nb a'', st2_nb a'], fun j hj => ⟨by rw [st2_na (by omega), st2_nk (by omega)], by rw [st2_nk (by omega), st2_na (by omega)]⟩, fun j hj => by rw [st2_na (by omega), st2_na (by omega)], fun _ _ => rfl, fun _ _ => rfl⟩
def REU (I : Nat → Nat → Int32) (rb e m : Nat) (c u : Nat → Nat) : Prop := ∀ s, s < m → I (rb + 5) (3 * e + s) = zn (c s) ∧ I (rb + 6) (3 * e + s) = zn (u s)
theorem r3e {m : Nat} : ((3 : Int32) * zn e) + zn m = zn (3 * e + m) := by rw [show (3 : Int32) = zn 3 from rfl, zn_mul, zn_add]
theorem o_j93 {k43 : Int32 → Int32 → Mo Unit} {x1 x4 x6 x8 : Int32} {v : Int64} (hM : MS K A 224) (h : I 224 11 = 5) : f_X13_readEquation_j93 k43 (some 224) x1 v x4 x6 x8 (K, I, J, A) = some ((), (K, I, J, A)) := by
  apply wp_get
  unfold f_X13_readEquation_j93
  exact b_ck hM.1 (b_eq (o_goesOn hM h) (b_ck hM.1 (b_eq (o_needs hM h) (b_ck hM.1 (b_eq (o_readWhole hM h) (b_getIv hM.1 h (wp_ifn (by decide) (wp_rt ⟨rfl, rfl⟩))))))))
theorem RT.i5 {x j : Nat} {v : Int32} (h : RT I J kwC b n t) (hx : x ≠ 224) : RT (st2 I x j v) J kwC b n t := by
  unfold RT at h ⊢
  rw [st2_nb (Ne.symm hx)]
  exact h
theorem RB.i5 {x j : Nat} {v : Int32} (h : RB I b n) (hx : x ≠ 224 ∧ x ≠ 227) : RB (st2 I x j v) b n := by
  unfold RB at h ⊢
  rw [st2_nb (Ne.symm hx.1), st2_nb (Ne.symm hx.2)]
  exact h
theorem RB.re (h : RB I b n) (hb : 236 ≤ rb) (f : REf rb e I J I' J') : RB I' b n := ⟨h.1, by rw [f.2.2.1 9 (by omega)]; exact h.2.1, fun i hi => ⟨(h.2.2 i hi).1, by rw [f.1 227 (by decide) (by omega) (by omega)]; exact (h.2.2 i hi).2⟩⟩
theorem t_rTerms {Q : Unit → Hp → Prop} {v : Int64} {f fo p : Nat} (hM : MS K A 224) (hS : SK K) (h4 : A 224 4 = some rb) (hb : 236 ≤ rb) (hB : BS K A rb) (he : e < 4) (hf : f < 4) (hfo : A (rb + 1) f = some fo) (hF : RFS K A fo) (hfo2 : 236 ≤ fo) (hfd : fo ≠ rb + 5 ∧ fo ≠ rb + 6) (hp : 3 ≤ p ∧ p ≤ 199) : ∀ k m n0 t c u I J, k + m = 5 → m ≤ 3 → k + 1 ≤ n0 → REU I rb e m c u → RB I b n → RT I J kwC b n t → ¬ I 224 11 = 5 → I fo 0 = zn p →
    (∀ kk s I' J', sTms b n p k m c u t = Sum.inl (kk, s) → REf rb e I J I' J' → I' 224 11 = 5 → I' 224 15 = zn kk → I' 224 16 = zn (ps b n s) → Q () (K, I', J', A)) →
    (∀ m' c' u' t' I' J', sTms b n p k m c u t = Sum.inr (m', c', u', t') → REf rb e I J I' J' → REU I' rb e m' c' u' → RT I' J' kwC b n t' → ¬ I' 224 11 = 5 → I' 224 15 = I 224 15 → wp (f_X13_readEquation_j167 (some 224) (zn e) v (zn f) (zn m')) Q (K, I', J', A)) →
    wp (lq2 (f_X13_readEquation_b43 (some 224) (zn e) v (zn f)) n0 1 (zn m)) Q (K, I, J, A) := by
  have hB' := hB
  obtain ⟨b0, ⟨a4, a5, a6, a7, a8, a9, a10, a11, a12, a13, a14⟩, ⟨k1, k2, k3, k4, k5, k6, k7, k8, k9, k10, k11⟩, hb64⟩ := hB'
  intro k
  induction k with
  | zero => intro m n0 t c u I J h1 h2; omega
  | succ k ih =>
    intro m n0 t c u I J hkm hm hn0 hU hBt hR h5 hI0 qe qs
    obtain ⟨n1, rfl⟩ : ∃ n1, n0 = n1 + 1 := ⟨n0 - 1, by omega⟩
    show wp (f_X13_readEquation_b43 (some 224) (zn e) v (zn f) (lq2 (f_X13_readEquation_b43 (some 224) (zn e) v (zn f)) n1) 1 (zn m)) Q (K, I, J, A)
    unfold f_X13_readEquation_b43
    refine wp_ifn (by decide) (b_getI hM.1 (wp_ifn h5 (b_getA hM.1 h4 (b_getA b0 a4 (b_ldA k1 (by decide) (by omega) (by omega) ?_)))))
    rw [hfo]
    refine b_getIv hF.1 hI0 ?_
    rw [zn_pred1 (by omega)]
    have ov : ∀ {kk s : Nat} {I1 : Nat → Nat → Int32} {J1 : Nat → Nat → Int64} {r : Int32}, I1 224 11 = 5 → Q () (K, I1, J1, A) → wp (if ¬ zn m = (3 : Int32) then f_X13_readEquation_j93 (lq2 (f_X13_readEquation_b43 (some 224) (zn e) v (zn f)) n1) (some 224) (zn e) v (zn f) (zn m) r else mBd (mCk 11 (some 224) (f_X13_wrong (some 224) (5 : Int32))) (fun _ => f_X13_readEquation_j93 (lq2 (f_X13_readEquation_b43 (some 224) (zn e) v (zn f)) n1) (some 224) (zn e) v (zn f) (zn m) r)) Q (K, I1, J1, A) := by
      intro _ _ I1 J1 r h q
      by_cases h3 : ¬ zn m = (3 : Int32)
      · refine wp_ifp h3 ?_
        unfold wp
        exact ⟨_, _, o_j93 hM h, q⟩
      · refine wp_ifn h3 (b_ck hM.1 (b_eq (o_wrong hM h) ?_))
        unfold wp
        exact ⟨_, _, o_j93 hM h, q⟩
    have hstep : sTms b n p (k + 1) m c u t = (match sTrm b n p m t with
      | Sum.inl e => Sum.inl e
      | Sum.inr xy => if isG b n (t + 3) 44 = true then sTms b n p k (m + 1) (addT c m xy.1) (addT u m xy.2) (t + 4) else Sum.inr (m + 1, addT c m xy.1, addT u m xy.2, t + 3)) := rfl
    rw [hstep] at qe qs
    refine b_ck hM.1 (wp_bd (t_bounded (lo := 1) (hi := p - 1) hM hR h5 (by omega) (by omega) (fun g1 g2 g3 => ?_) (fun g1 g2 => ?_) (fun g1 => ?_)))
    rotate_left
    · have hin : inR b n t 1 (p - 1) = false := by
        unfold inR
        rw [g1]
        simp only [beq_self_eq_true, Bool.true_and]
        rw [show (decide (1 ≤ whN b n t) && decide (whN b n t ≤ p - 1)) = false from by simp; omega]
      have hs : sTrm b n p m t = Sum.inl (4, t) := by
        unfold sTrm
        rw [hin, if_neg (fun q => absurd q.1 (by decide)), if_neg (fun q => q g1), if_pos rfl]
      rw [hs] at qe
      exact ov (kk := 4) (s := t) over_11 (qe 4 t _ _ rfl (RW.over.ref hb) over_11 over_15 over_16)
    · have hin : inR b n t 1 (p - 1) = false := by
        unfold inR
        rw [beq_eq_false_iff_ne.mpr g1, Bool.false_and]
      have hs : sTrm b n p m t = Sum.inl (1, t) := by
        unfold sTrm
        rw [hin, if_neg (fun q => absurd q.1 (by decide)), if_pos g1]
      rw [hs] at qe
      exact ov (kk := 1) (s := t) over_11 (qe 1 t _ _ rfl (RW.over.ref hb) over_11 over_15 over_16)
    have hin : inR b n t 1 (p - 1) = true := by
      have g2' : 1 ≤ whN b n t := g2
      have g3' : whN b n t ≤ p - 1 := g3
      unfold inR
      rw [g1]
      simp only [beq_self_eq_true, Bool.true_and]
      rw [show (decide (1 ≤ whN b n t) && decide (whN b n t ≤ p - 1)) = true from by simp; omega]
    by_cases h3 : m = 3
    · have hs : sTrm b n p m t = Sum.inl (5, t) := by
        unfold sTrm
        rw [hin, if_pos ⟨rfl, h3⟩]
      rw [hs] at qe
      refine wp_ifn (by rw [h3]; decide) (b_ck hM.1 (b_eq (t_wrong (k := 5) hM hR h5) ?_))
      unfold wp
      exact ⟨_, _, o_j93 hM over_11, qe 5 t _ _ rfl (RW.over.ref hb) over_11 over_15 over_16⟩
    have hs0 : sTrm b n p m t = (if isW b n (t + 1) 6 = false then Sum.inl (1, t + 1)
      else if kd' kwC b n (t + 2) ≠ 2 then Sum.inl (1, t + 2)
      else if inR b n (t + 2) 1 12 = false then Sum.inl (4, t + 2)
      else Sum.inr (whN b n t, whN b n (t + 2))) := by
      unfold sTrm
      rw [hin, if_neg (fun q => h3 q.2), if_neg (fun q => q g1), if_neg (by decide)]
    rw [hs0] at qe qs
    refine wp_ifp (fun q => h3 ((zn_inj (b := 3) (by omega) (by omega)).mp q)) ?_
    unfold f_X13_readEquation_j93
    refine b_ck hM.1 (wp_bd (t_next hM hBt hR h5 (show kd' kwC b n t ≠ 1 by have : kd' kwC b n t = 2 := g1; omega) (fun I1 J1 f1 r1 s1 => ?_)))
    have W1 : RW I J I1 J1 := f1.rw'
    refine b_ck hM.1 (wp_bd (t_needs (i := 6) hM hS (hBt.rw' W1) r1 s1 (by decide) (fun g4 I2 J2 f2 r2 s2 => ?_) (fun g4 => ?_)))
    rotate_left
    · rw [if_pos g4] at qe
      refine b_ck hM.1 (b_eq (o_readWhole hM over_11) (b_getIv hM.1 over_11 (wp_ifn (by decide) (wp_rt (qe 1 (t + 1) _ _ rfl ((W1.trans RW.over).ref hb) over_11 over_15 over_16)))))
    rw [if_neg (by rw [g4]; decide)] at qe qs
    have W2 : RW I J I2 J2 := W1.trans f2.rw'
    refine b_ck hM.1 (wp_bd (t_readWhole (lo := 1) (hi := 12) hM (hBt.rw' W2) r2 s2 (by omega) (by omega) (fun g5 g6 g7 I3 J3 f3 r3 s3 => ?_) (fun g5 g6 => ?_) (fun g5 => ?_)))
    rotate_left
    · have hin2 : inR b n (t + 2) 1 12 = false := by
        unfold inR
        have g5' : kd' kwC b n (t + 2) = 2 := g5
        have g6' : ¬ (1 ≤ whN b n (t + 2) ∧ whN b n (t + 2) ≤ 12) := g6
        rw [g5']
        simp only [beq_self_eq_true, Bool.true_and]
        rw [show (decide (1 ≤ whN b n (t + 2)) && decide (whN b n (t + 2) ≤ 12)) = false from by simp; omega]
      rw [if_neg (fun q => q g5), if_pos hin2] at qe
      exact b_getIv hM.1 over_11 (wp_ifn (by decide) (wp_rt (qe 4 (t + 2) _ _ rfl ((W2.trans RW.over).ref hb) over_11 over_15 over_16)))
    · rw [if_pos g5] at qe
      exact b_getIv hM.1 over_11 (wp_ifn (by decide) (wp_rt (qe 1 (t + 2) _ _ rfl ((W2.trans RW.over).ref hb) over_11 over_15 over_16)))
    have hin2 : inR b n (t + 2) 1 12 = true := by
      unfold inR
      have g5' : kd' kwC b n (t + 2) = 2 := g5
      have g6' : 1 ≤ whN b n (t + 2) := g6
      have g7' : whN b n (t + 2) ≤ 12 := g7
      rw [g5']
      simp only [beq_self_eq_true, Bool.true_and]
      rw [show (decide (1 ≤ whN b n (t + 2)) && decide (whN b n (t + 2) ≤ 12)) = true from by simp; omega]
    rw [if_neg (fun q => q g5), if_neg (by rw [hin2]; decide)] at qe qs
    dsimp only at qe qs
    have W3 : RW I J I3 J3 := W2.trans f3.rw'
    refine b_getI hM.1 (wp_ifp s3 (b_getA hM.1 h4 (b_getA b0 a8 ?_)))
    rw [r3e]
    refine b_stI k5 (by omega) (by omega) (by omega) (b_getA hM.1 h4 (b_getA b0 a9 (b_stI k6 (by omega) (by omega) (by omega) ?_)))
    have R4 : REf rb e I J (st2 (st2 I3 (rb + 5) (3 * e + m) (zn (whN b n t))) (rb + 6) (3 * e + m) (zn (whN b n (t + 1 + 1)))) J3 := (W3.ref hb).trans (REf.st hb)
    have r4 : RT (st2 (st2 I3 (rb + 5) (3 * e + m) (zn (whN b n t))) (rb + 6) (3 * e + m) (zn (whN b n (t + 1 + 1)))) J3 kwC b n (t + 3) := (r3.i5 (by omega)).i5 (by omega)
    have s4 : ¬ (st2 (st2 I3 (rb + 5) (3 * e + m) (zn (whN b n t))) (rb + 6) (3 * e + m) (zn (whN b n (t + 1 + 1)))) 224 11 = 5 := by rw [st2_nb (by omega), st2_nb (by omega)]; exact s3
    have hU4 : REU (st2 (st2 I3 (rb + 5) (3 * e + m) (zn (whN b n t))) (rb + 6) (3 * e + m) (zn (whN b n (t + 1 + 1)))) rb e (m + 1) (addT c m (whN b n t)) (addT u m (whN b n (t + 2))) := by
      intro s hs
      unfold addT
      by_cases hsm : s = m
      · subst hsm
        rw [if_pos rfl, if_pos rfl]
        exact ⟨by rw [st2_na (by omega), st2_at], st2_at⟩
      · rw [if_neg hsm, if_neg hsm]
        obtain ⟨y1, y2⟩ := hU s (by omega)
        refine ⟨?_, ?_⟩
        · rw [st2_na (by omega), st2_nk (by omega), W3.1 _ (by omega)]; exact y1
        · rw [st2_nk (by omega), st2_na (by omega), W3.1 _ (by omega)]; exact y2
    have z15 : st2 (st2 I3 (rb + 5) (3 * e + m) (zn (whN b n t))) (rb + 6) (3 * e + m) (zn (whN b n (t + 1 + 1))) 224 15 = I 224 15 := by
      rw [st2_nb (by omega), st2_nb (by omega), f3.2.1 15 (by omega), f2.2.1 15 (by omega), f1.2.1 15 (by omega)]
    refine b_ck hM.1 (wp_bd (t_eatsSign (c := 44) hM (hBt.re hb R4) r4 s4 (fun g8 I5 J5 f5 r5 s5 => ?_) (fun g8 => ?_)))
    · rw [if_pos g8] at qe qs
      have R5 : REf rb e I J I5 J5 := R4.trans (f5.rw'.ref hb)
      rw [zn_succ]
      have hU5 : REU I5 rb e (m + 1) (addT c m (whN b n t)) (addT u m (whN b n (t + 2))) := fun s hs => ⟨by rw [f5.1 _ (by omega)]; exact (hU4 s hs).1, by rw [f5.1 _ (by omega)]; exact (hU4 s hs).2⟩
      refine ih (m + 1) n1 (t + 4) _ _ I5 J5 (by omega) (by omega) (by omega) hU5 (hBt.re hb R5) r5 s5 (by rw [R5.1 fo (by omega) hfd.1 hfd.2]; exact hI0) (fun kk s I6 J6 h6 R6 z1 z2 z3 => qe kk s I6 J6 h6 (R5.trans R6) z1 z2 z3) (fun m' c' u' t' I6 J6 h6 R6 U6 r6 s6 z => qs m' c' u' t' I6 J6 h6 (R5.trans R6) U6 r6 s6 (z.trans ((f5.2.1 15 (by omega)).trans z15)))
    · rw [if_neg (by rw [g8]; decide)] at qs
      obtain ⟨n2, rfl⟩ : ∃ n2, n1 = n2 + 1 := ⟨n1 - 1, by omega⟩
      rw [zn_succ]
      show wp (f_X13_readEquation_b43 (some 224) (zn e) v (zn f) (lq2 (f_X13_readEquation_b43 (some 224) (zn e) v (zn f)) n2) 0 (zn (m + 1))) Q (K, _, J3, A)
      unfold f_X13_readEquation_b43
      exact wp_ifp rfl (qs _ _ _ _ _ J3 rfl R4 hU4 r4 s4 z15)
end
