/-! ===== the reference reads a field's line: as the spec ===== -/
section
variable {β : Type} {kw : Nat → Int64} {K : List (Nat × Nat)} {I I' : Nat → Nat → Int32} {J J' : Nat → Nat → Int64} {A : Nat → Nat → Option Nat} {w : WD}
variable {b : Nat → Nat} {n T t rb : Nat} {B : BKD} {N : NMD}
theorem t_rField {Q : Unit → Hp → Prop} (hM : MS K A 224) (hS : SK K) (hR : RRd K I J A rb b n B N t) (hw : kd' kwC b n t ≠ 1)
    (qe : ∀ k s I' J', sFld b n B N t = Sum.inl (k, s) → ROv I J I' J' k (ps b n s) → Q () (K, I', J', A))
    (qs : ∀ B' N' t' I' J' A' I1 J1, sFld b n B N t = Sum.inr (B', N', t') → RW I J I1 J1 → (∀ x, x < K.length → x ≠ rb → x ≠ rb + 10 → x ≠ rb + 11 → I' x = I1 x) → (∀ x, x < K.length → x ≠ rb + 9 → J' x = J1 x) → (∀ x, x < K.length → x ≠ rb + 1 → A' x = A x) → RRd (K ++ fldK) I' J' A' rb b n B' N' t' → Q () (K ++ fldK, I', J', A')) : wp (f_X13_readFieldLine (some 224)) Q (K, I, J, A) := by
  obtain ⟨⟨h4, hb, hB⟩, ⟨hBt, hRT, h5, hz⟩, ⟨hC, hN⟩, okb, okn, hsum⟩ := hR
  have hf4 := okb.1.1
  have he4 := okb.2.1.1
  have hl8 := okb.2.2.1
  unfold f_X13_readFieldLine f_X13_begins
  refine b_getA hM.1 h4 (b_getIv hB.1 hC.1.1 (b_ck hM.1 ?_))
  unfold sFld at qe qs
  by_cases hnf : bnf B = 4
  · rw [if_pos hnf] at qe
    rw [hnf]
    refine b_ite (wp_ifn (by decide) (b_assoc (b_ck hM.1 (b_eq (t_wrong (k := 5) hM hRT h5) (b_assoc (b_ck hM.1 (b_eq (o_goesOn hM over_11) (b_rt ?_))))))))
    exact o_tailF hM over_11 h4 hB (hN.rw' hb RW.over) okn (qe 5 t _ _ rfl (ROv.mk' RW.rfl'))
  rw [if_neg hnf] at qe qs
  refine b_ite (wp_ifp (fun q => hnf ((zn_inj (b := 4) (by omega) (by omega)).mp q)) (b_assoc (b_ck hM.1 (wp_bd (t_next hM hBt hRT h5 hw (fun I1 J1 f1 r1 s1 => b_rt ?_))))))
  have W1 : RW I J I1 J1 := f1.rw'
  refine b_ck hM.1 (wp_bd (t_fresh hM hS (hBt.rw' W1) r1 s1 h4 hb hB (hN.rw' hb W1) okn (fun g1 g2 I2 J2 f2 r2 s2 => ?_) (fun g1 g2 v => ?_) (fun g1 v => ?_)))
  rotate_left
  · rw [if_neg (fun q => q g1), if_pos g2] at qe
    refine b_ck hM.1 (b_eq (o_bounded hM over_11) (b_eq (t_isPrime (k := 3) (by omega) (by omega)) (wp_ifp (by decide) ?_)))
    unfold wp
    exact ⟨_, _, o_j38 hM over_11, qe 3 (t + 1) _ _ rfl (ROv.mk' W1)⟩
  · rw [if_pos g1] at qe
    refine b_ck hM.1 (b_eq (o_bounded hM over_11) (b_eq (t_isPrime (k := 3) (by omega) (by omega)) (wp_ifp (by decide) ?_)))
    unfold wp
    exact ⟨_, _, o_j38 hM over_11, qe 1 (t + 1) _ _ rfl (ROv.mk' W1)⟩
  rw [if_neg (fun q => q g1), if_neg (by rw [g2]; decide)] at qe qs
  have W2 : RW I J I2 J2 := W1.trans f2.rw'
  have tail3 : ∀ {v : Int64} {I' : Nat → Nat → Int32}, I' 224 11 = 5 → Q () (K, I', J2, A) → wp (mBd (f_X13_isPrime (zn 3)) (fun r5 => (if ¬ r5 = 0 then f_X13_readFieldLine_j38 (some 224) v (zn 3) else mBd (mCk 11 (some 224) (f_X13_wrong (some 224) (4 : Int32))) (fun _ => f_X13_readFieldLine_j38 (some 224) v (zn 3))))) Q (K, I', J2, A) := by
    intro v I' h q
    refine b_eq (t_isPrime (k := 3) (by omega) (by omega)) (wp_ifp (by decide) ?_)
    unfold wp
    exact ⟨_, _, o_j38 hM h, q⟩
  refine b_ck hM.1 (wp_bd (t_bounded (lo := 3) (hi := 199) hM r2 s2 (by omega) (by omega) (fun g3 g4 g5 => ?_) (fun g3 g4 => ?_) (fun g3 => ?_)))
  rotate_left
  · have hodd : oddP (whN b n (t + 2)) = false := by
      have g4' : ¬ (3 ≤ whN b n (t + 2) ∧ whN b n (t + 2) ≤ 199) := g4
      unfold oddP
      rw [show (decide ((3 : Int) ≤ (whN b n (t + 2) : Int)) && decide ((whN b n (t + 2) : Int) ≤ 199)) = false from by simp; omega, Bool.false_and]
    rw [if_neg (fun q => q g3), if_pos hodd] at qe
    exact tail3 over_11 (qe 4 (t + 2) _ _ rfl (ROv.mk' W2))
  · rw [if_pos g3] at qe
    exact tail3 over_11 (qe 1 (t + 2) _ _ rfl (ROv.mk' W2))
  have hodd : oddP (whN b n (t + 2)) = isPb (whN b n (t + 2)) := by
    have g4' : 3 ≤ whN b n (t + 2) := g4
    have g5' : whN b n (t + 2) ≤ 199 := g5
    unfold oddP
    rw [show (decide ((3 : Int) ≤ (whN b n (t + 2) : Int)) && decide ((whN b n (t + 2) : Int) ≤ 199)) = true from by simp; omega, Bool.true_and, Int.toNat_natCast]
  refine b_eq (t_isPrime (k := whN b n (t + 2)) g4 g5) ?_
  rw [if_neg (fun q => q g3), hodd] at qe qs
  cases hpb : isPb (whN b n (t + 2)) with
  | false =>
    rw [if_pos hpb] at qe
    refine wp_ifn (by decide) (b_ck hM.1 (b_eq (t_wrong (k := 4) hM r2 s2) ?_))
    unfold wp
    exact ⟨_, _, o_j38 hM over_11, qe 4 (t + 2) _ _ rfl (ROv.mk' W2)⟩
  | true =>
    rw [if_neg (by rw [hpb]; decide)] at qe qs
    refine wp_ifp (by decide) ?_
    unfold f_X13_readFieldLine_j38
    refine b_ck hM.1 (wp_bd (t_next hM (hBt.rw' W2) r2 s2 (show kd' kwC b n (t + 2) ≠ 1 by have : kd' kwC b n (t + 2) = 2 := g3; omega) (fun I3 J3 f3 r3 s3 => ?_)))
    have W3 : RW I J I3 J3 := W2.trans f3.rw'
    refine b_ck hM.1 (wp_bd (t_needs (i := 3) hM hS (hBt.rw' W3) r3 s3 (by decide) (fun g6 I4 J4 f4 r4 s4 => ?_) (fun g6 => ?_)))
    rotate_left
    · rw [if_pos g6] at qe
      exact b_ck hM.1 (b_eq (o_bounded hM over_11) (o_c38 hM over_11 (qe 1 (t + 3) _ _ rfl (ROv.mk' W3))))
    rw [if_neg (by rw [g6]; decide)] at qe qs
    have W4 : RW I J I4 J4 := W3.trans f4.rw'
    refine b_ck hM.1 (wp_bd (t_bounded (lo := 2) (hi := 12) hM r4 s4 (by omega) (by omega) (fun g7 g8 g9 => ?_) (fun g7 g8 => ?_) (fun g7 => ?_)))
    rotate_left
    · have ho : isOrd (whN b n (t + 2)) (whN b n (t + 4)) = false := by
        have g8' : ¬ (2 ≤ whN b n (t + 4) ∧ whN b n (t + 4) ≤ 12) := g8
        unfold isOrd
        rw [show (decide (2 ≤ whN b n (t + 4)) && decide (whN b n (t + 4) ≤ 12)) = false from by simp; omega, Bool.false_and]
      rw [if_neg (fun q => q g7), if_pos ho] at qe
      exact o_c38 hM over_11 (qe 4 (t + 4) _ _ rfl (ROv.mk' W4))
    · rw [if_pos g7] at qe
      exact o_c38 hM over_11 (qe 1 (t + 4) _ _ rfl (ROv.mk' W4))
    have g4' : 3 ≤ whN b n (t + 2) := g4
    have g5' : whN b n (t + 2) ≤ 199 := g5
    have g8' : 2 ≤ whN b n (t + 4) := g8
    have g9' : whN b n (t + 4) ≤ 12 := g9
    have ho : isOrd (whN b n (t + 2)) (whN b n (t + 4)) = ((whN b n (t + 2) - 1) % whN b n (t + 4) == 0) := by
      unfold isOrd
      rw [show (decide (2 ≤ whN b n (t + 4)) && decide (whN b n (t + 4) ≤ 12)) = true from by simp; omega, Bool.true_and]
    rw [if_neg (fun q => q g7), ho] at qe qs
    show wp (mRq (¬ zn (whN b n (t + 4)) = 0) (if irem (zn (whN b n (t + 2)) - (1 : Int32)) (zn (whN b n (t + 4))) = 0 then f_X13_readFieldLine_j71 (some 224) (vl kwC b n (t + 1)) (zn (whN b n (t + 2))) (zn (whN b n (t + 4))) else mBd (mCk 11 (some 224) (f_X13_wrong (some 224) (4 : Int32))) (fun _ => f_X13_readFieldLine_j71 (some 224) (vl kwC b n (t + 1)) (zn (whN b n (t + 2))) (zn (whN b n (t + 4)))))) Q (K, I4, J4, A)
    refine wp_rq (by rw [zn0 (by omega)]; omega) ?_
    rw [zn_pred1 (by omega), irem_zn (by omega) (by omega)]
    have hlt : (whN b n (t + 2) - 1) % whN b n (t + 4) < 2147483648 := Nat.lt_of_lt_of_le (Nat.mod_lt _ (by omega)) (by omega)
    refine wp_ifq (zn0 hlt) ?_
    by_cases hd : (whN b n (t + 2) - 1) % whN b n (t + 4) = 0
    · rw [if_neg (by rw [hd]; decide)] at qs
      refine wp_ifp hd ?_
      unfold f_X13_readFieldLine_j71
      refine b_ck hM.1 (wp_bd (t_next hM (hBt.rw' W4) r4 s4 (show kd' kwC b n (t + 4) ≠ 1 by have : kd' kwC b n (t + 4) = 2 := g7; omega) (fun I5 J5 f5 r5 s5 => b_getI hM.1 (wp_ifp s5 ?_))))
      have W5 : RW I J I5 J5 := W4.trans f5.rw'
      have hpm : pn (whN b n (t + 2)) (whN b n (t + 4)) := ⟨pl_of g4' g5' hpb, g8', g9', hd⟩
      have hl : rb + 11 < K.length := kk_lt hB.2.2.1.2.2.2.2.2.2.2.2.2.2 (by decide)
      have hl2 : 224 + 10 < K.length := kk_lt hM.2.2.1.2.2.2.2.2.2.2.2.2 (by decide)
      refine t_putField hM h4 hb hB (hC.rw' okb hb W5) (hN.rw' hb W5) okb (by omega) (by omega) hpm (fun I6 J6 A6 e1 e2 e3 hB6 hC6 hN6 => qs _ _ _ I6 J6 A6 I5 J5 rfl W5 e1 e2 e3 ⟨⟨by rw [e3 224 (by omega) (by omega)]; exact h4, hb, hB6⟩, ⟨?_, ?_, ?_, ?_⟩, ⟨hC6, hN6⟩, addFl_ok okb (by omega) hpm, addN_ok okn (by omega) (by decide) (by omega), ?_⟩)
      · have := hBt.rw' W5
        exact ⟨this.1, by rw [e1 224 (by omega) (by omega) (by omega) (by omega)]; exact this.2.1, fun i hi => ⟨(this.2.2 i hi).1, by rw [e1 227 (by omega) (by omega) (by omega) (by omega)]; exact (this.2.2 i hi).2⟩⟩
      · obtain ⟨u1, u2, u3⟩ := r5
        unfold RT
        rw [e1 224 (by omega) (by omega) (by omega) (by omega), e2 224 (by omega) (by omega)]
        exact ⟨u1, u2, u3⟩
      · rw [e1 224 (by omega) (by omega) (by omega) (by omega)]; exact s5
      · rw [e1 224 (by omega) (by omega) (by omega) (by omega)]
        have z1 : I5 224 15 = I4 224 15 := f5.2.1 15 (by omega)
        have z2 : I4 224 15 = I3 224 15 := f4.2.1 15 (by omega)
        have z3 : I3 224 15 = I2 224 15 := f3.2.1 15 (by omega)
        have z4 : I2 224 15 = I1 224 15 := f2.2.1 15 (by omega)
        have z5 : I1 224 15 = I 224 15 := f1.2.1 15 (by omega)
        rw [z1, z2, z3, z4, z5]; exact hz
      · show N.1 + 1 = bnf B + 1 + bne B + bnl B
        omega
    · rw [if_pos (beq_eq_false_iff_ne.mpr hd)] at qe
      refine wp_ifn hd (b_ck hM.1 (b_eq (t_wrong (k := 4) hM r4 s4) ?_))
      unfold wp
      exact ⟨_, _, o_j71 hM over_11, qe 4 (t + 4) _ _ rfl (ROv.mk' W4)⟩
end
