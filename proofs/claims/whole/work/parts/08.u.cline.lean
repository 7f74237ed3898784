/-! ===== the class reads a field's line ===== -/
/-- a line's outcome: a fault and the token where it is, or the book, its names, the next token -/
abbrev SR : Type := (Nat × Nat) ⊕ (BKD × NMD × Nat)
def isOrd (p m : Nat) : Bool := decide (2 ≤ m) && decide (m ≤ 12) && ((p - 1) % m == 0)
def sFld (b : Nat → Nat) (n : Nat) (B : BKD) (N : NMD) (t : Nat) : SR :=
  if bnf B = 4 then Sum.inl (5, t)
  else if kd' kwC b n (t + 1) ≠ 5 then Sum.inl (1, t + 1)
  else if (rk N (vl kwC b n (t + 1))).isSome = true then Sum.inl (3, t + 1)
  else if kd' kwC b n (t + 2) ≠ 2 then Sum.inl (1, t + 2)
  else if oddP (whN b n (t + 2)) = false then Sum.inl (4, t + 2)
  else if isW b n (t + 3) 3 = false then Sum.inl (1, t + 3)
  else if kd' kwC b n (t + 4) ≠ 2 then Sum.inl (1, t + 4)
  else if isOrd (whN b n (t + 2)) (whN b n (t + 4)) = false then Sum.inl (4, t + 4)
  else Sum.inr (addFl B (whN b n (t + 2)) (whN b n (t + 4)), addN N (vl kwC b n (t + 1)) 0 (bnf B), t + 5)
section
variable {β : Type} {kw : Nat → Int64} {K : List (Nat × Nat)} {I I' : Nat → Nat → Int32} {J J' : Nat → Nat → Int64} {A : Nat → Nat → Option Nat} {w : WD}
variable {b : Nat → Nat} {n T t sb : Nat} {B : BKD} {N : NMD}
theorem odd_pl {p : Nat} (h : oddP p = true) : p ∈ pl := by
  unfold oddP at h
  simp only [Bool.and_eq_true, decide_eq_true_eq] at h
  rw [Int.toNat_natCast] at h
  exact pl_of (by omega) (by omega) h.2
theorem pn_ord {p m : Nat} (h1 : oddP p = true) (h2 : isOrd p m = true) : pn p m := by
  unfold isOrd at h2
  simp only [Bool.and_eq_true, decide_eq_true_eq, beq_iff_eq] at h2
  exact ⟨odd_pl h1, h2.1.1, h2.1.2, h2.2⟩
theorem t_isOrderFor {p : Nat} {v : Int} {h : Hp} (hp : 1 ≤ p ∧ p < 1000) (hv : -2147483648 ≤ v ∧ v < 2147483648) : f_X3_isOrderFor (zn p) (zi v) h = some (b01 (decide (0 ≤ v) && isOrd p v.toNat), h) := by
  apply wp_get'
  unfold f_X3_isOrderFor isOrd
  by_cases h1 : v < 2
  · refine wp_ifp (ilt_t (b := 2) (by omega)) (wp_rt ⟨?_, rfl⟩)
    rw [show (decide (2 ≤ v.toNat)) = false from by simp; omega]; simp; rfl
  · refine wp_ifn (ilt_f (b := 2) (by omega)) ?_
    by_cases h2 : 12 < v
    · refine wp_ifp (show zi v > zi 12 from ilt_t (by omega)) (wp_rt ⟨?_, rfl⟩)
      rw [show (decide (v.toNat ≤ 12)) = false from by simp; omega]; simp; rfl
    · refine wp_ifn (show ¬ zi v > zi 12 from ilt_f (by omega)) ?_
      rw [zi_nn (show 0 ≤ v by omega)]
      refine wp_rq (by rw [zn0 (by omega)]; omega) ?_
      rw [zn_pred1 hp.1, irem_zn (by omega) (by omega)]
      have hlt : (p - 1) % v.toNat < 2147483648 := Nat.lt_of_lt_of_le (Nat.mod_lt _ (by omega)) (by omega)
      refine wp_ifq (not_congr (zn0 hlt)) ?_
      rw [show decide (0 ≤ v) = true from by simp; omega, show decide (2 ≤ v.toNat) = true from by simp; omega, show decide (v.toNat ≤ 12) = true from by simp; omega]
      by_cases h3 : (p - 1) % v.toNat = 0
      · refine wp_ifn (fun q => q h3) (wp_rt ⟨?_, rfl⟩)
        rw [h3]; rfl
      · refine wp_ifp h3 (wp_rt ⟨?_, rfl⟩)
        rw [beq_eq_false_iff_ne.mpr h3]; rfl
/-- a step changes the reader's tape alone -/
theorem SF.cfr (h : SF I J I' J') : CFr sb I J I' J' := fun x hx => ⟨h.1 x (fun q => hx (by unfold crg; omega)), h.2.2 x (fun q => hx (by unfold crg; omega))⟩
theorem CFr.trans {I'' : Nat → Nat → Int32} {J'' : Nat → Nat → Int64} (h : CFr sb I J I' J') (g : CFr sb I' J' I'' J'') : CFr sb I J I'' J'' := fun x hx => ⟨(g x hx).1.trans (h x hx).1, (g x hx).2.trans (h x hx).2⟩
theorem CFr.i {j : Nat} {v : Int32} : CFr sb I J (st2 I 65 j v) J := fun x hx => ⟨st2_nb (fun q => hx (by unfold crg; omega)), rfl⟩
theorem CFr.j {j : Nat} {v : Int64} : CFr sb I J I (st2 J 65 j v) := fun x hx => ⟨rfl, st2_nb (fun q => hx (by unfold crg; omega))⟩
theorem CFr.bk (h : ∀ x, ¬ (sb ≤ x ∧ x < sb + 52) → I' x = I x ∧ J' x = J x) : CFr sb I J I' J' := fun x hx => h x (fun q => hx (by unfold crg; omega))
/-- the book stays when only what lies below it changes -/
theorem CBC.lo {bk : Nat} {B : BKD} (hk : okB B) (h : CBC I J bk B) (e : ∀ x, bk ≤ x → x < bk + 52 → I' x = I x ∧ J' x = J x) : CBC I' J' bk B := by
  obtain ⟨⟨o1, o2⟩, ⟨o3, o4⟩, ⟨o5, o6⟩⟩ := hk
  obtain ⟨⟨x1, x2, x3⟩, x4, x5, x6⟩ := h
  refine ⟨⟨?_, ?_, ?_⟩, fun f hf => ?_, fun i hi => ?_, fun l hl => ⟨?_, fun i hi => ?_⟩⟩
  · rw [(e bk (by omega) (by omega)).1]; exact x1
  · rw [(e bk (by omega) (by omega)).1]; exact x2
  · rw [(e bk (by omega) (by omega)).1]; exact x3
  · exact (x4 f hf).mv (e _ (by omega) (by omega)).1 (e _ (by omega) (by omega)).1 (e _ (by omega) (by omega)).1
  · exact (x5 i hi).mv (e _ (by omega) (by omega)).1 (e _ (by omega) (by omega)).1 (e _ (by omega) (by omega)).1
  · rw [(e _ (by omega) (by omega)).1]; exact (x6 l hl).1
  · rw [(e _ (by omega) (by omega)).2]; exact (x6 l hl).2 i hi
theorem NmC.lo {bk : Nat} (h : NmC I J bk N) (e : ∀ x, bk ≤ x → x < bk + 52 → I' x = I x ∧ J' x = J x) : NmC I' J' bk N :=
  ⟨by rw [(e bk (by omega) (by omega)).1]; exact h.1, fun k hk => ⟨by rw [(e _ (by omega) (by omega)).2]; exact (h.2 k hk).1, by rw [(e _ (by omega) (by omega)).1]; exact (h.2 k hk).2.1, by rw [(e _ (by omega) (by omega)).1]; exact (h.2 k hk).2.2⟩⟩
theorem whI_2 (h : kd' kwC b n t = 2) : whI b n t = (whN b n t : Int) := if_pos h
theorem whI_n (h : kd' kwC b n t ≠ 2) : whI b n t = -1 := if_neg h
theorem whI_rng : -2147483648 ≤ whI b n t ∧ whI b n t < 2147483648 := by
  by_cases h : kd' kwC b n t = 2
  · rw [whI_2 h]; have := (wh_ok h).2; omega
  · rw [whI_n h]; omega
theorem t_cField {Q : Int32 → Hp → Prop} (hS : CSt K I A sb) (hC : CRd I J sb b n T B N t) (hw : kd' kwC b n t ≠ 0)
    (qe : ∀ k s I' J', sFld b n B N t = Sum.inl (k, s) → CFr sb I J I' J' → I' 65 11 = zn k → CT I' J' kwC b n T s → Q 0 (K, I', J', A))
    (qs : ∀ B' N' t' I' J', sFld b n B N t = Sum.inr (B', N', t') → CFr sb I J I' J' → CRd I' J' sb b n T B' N' t' → I' 65 13 = I 65 13 → Q 1 (K, I', J', A)) : wp (f_X3_readField (some 65)) Q (K, I, J, A) := by
  obtain ⟨hP, hO, hSK, hsb⟩ := hS
  have hP' := hP
  obtain ⟨hk, ⟨h0, h1, h2, h3, h4, h5⟩, hT, hR, d1, d2, d3, hB⟩ := hP'
  obtain ⟨cT, cB, cN, okb, okn, hsum, h11⟩ := hC
  have hf4 := okb.1.1
  have he4 := okb.2.1.1
  have hl8 := okb.2.2.1
  unfold f_X3_readField f_X0_fieldsHeld
  refine b_getA hk h5 (b_ck hB.1 (b_assoc (b_getIv hB.1 cB.1.1 (b_rt ?_))))
  unfold sFld at qe qs
  by_cases hnf : bnf B = 4
  · rw [if_pos hnf] at qe
    rw [hnf]
    exact wp_ifn (by decide) (e_blame (k := 5) hk (qe 5 t _ _ rfl CFr.i st2_at (cT.o (by decide))))
  rw [if_neg hnf] at qe qs
  refine wp_ifp (lt_t (b := 4) (by omega)) (b_getA hk h0 (b_ck hT.1 (wp_bd (t_cstep hT cT hw (fun I1 J1 f1 c1 => ?_)))))
  have cN1 : NmC I1 J1 sb N := cN.lo (fun x a _ => ⟨f1.1 x (by omega), f1.2.2 x (by omega)⟩)
  have cB1 : CBC I1 J1 sb B := cB.lo okb (fun x a _ => ⟨f1.1 x (by omega), f1.2.2 x (by omega)⟩)
  have F1 : CFr sb I J I1 J1 := f1.cfr
  refine b_ck hk (wp_bd (t_takeNewName hP cN1 okn c1 (fun g1 g2 I2 J2 f2 c2 => ?_) (fun g1 g2 => ?_) (fun g1 => ?_)))
  rotate_left
  · rw [if_neg (fun q => q g1), if_pos g2] at qe
    exact wp_ifp rfl (wp_rt (qe 3 (t + 1) _ _ rfl (F1.trans CFr.i) st2_at (c1.o (by decide))))
  · rw [if_pos g1] at qe
    exact wp_ifp rfl (wp_rt (qe 1 (t + 1) _ _ rfl (F1.trans CFr.i) st2_at (c1.o (by decide))))
  rw [if_neg (fun q => q g1), if_neg (by rw [g2]; decide)] at qe qs
  have F2 : CFr sb I J I2 J2 := F1.trans (CFr.i.trans (CFr.j.trans f2.cfr))
  have n2 : J2 65 8 = vl kwC b n (t + 1) := by rw [f2.2.2 65 (by decide), st2_at]
  have c65 : ∀ j, j ≠ 12 → I2 65 j = I 65 j := fun j hj => by rw [f2.1 65 (by decide), st2_nk hj, f1.1 65 (by decide)]
  refine wp_ifn (by decide) (b_getA hk h0 (b_ck hT.1 (b_eq (t_wholeNow hT c2) (b_eq (t_oddC whI_rng) (b_ck hk (wp_bd (t_takeWhole (g := oddP (whI b n (t + 2))) hk h0 hT c2 (fun g3 g4 I3 J3 f3 c3 => ?_) (fun g3 g4 => ?_) (fun g3 => ?_))))))))
  rotate_left
  · rw [whI_2 g3] at g4
    rw [if_neg (fun q => q g3), if_pos g4] at qe
    exact wp_ifn (by decide) (wp_rt (qe 4 (t + 2) _ _ rfl (F2.trans CFr.i) st2_at (c2.o (by decide))))
  · rw [if_pos g3] at qe
    exact wp_ifn (by decide) (wp_rt (qe 1 (t + 2) _ _ rfl (F2.trans CFr.i) st2_at (c2.o (by decide))))
  rw [whI_2 g3] at g4
  rw [if_neg (fun q => q g3), if_neg (by rw [g4]; decide)] at qe qs
  have F3 : CFr sb I J I3 J3 := F2.trans (CFr.i.trans f3.cfr)
  have i9 : I3 65 9 = zn (whN b n (t + 2)) := by rw [f3.1 65 (by decide), st2_at]
  have n3 : J3 65 8 = vl kwC b n (t + 1) := by rw [f3.2.2 65 (by decide)]; exact n2
  refine wp_ifp (by decide) (b_getIv hk i9 (b_ck hk (wp_bd (t_takeWord (i := 3) hk h0 hT c3 (fun g5 I4 J4 f4 c4 => ?_) (fun g5 => ?_)))))
  rotate_left
  · rw [if_pos g5] at qe
    exact wp_ifp rfl (wp_rt (qe 1 (t + 3) _ _ rfl (F3.trans CFr.i) st2_at (c3.o (by decide))))
  rw [if_neg (by rw [g5]; decide)] at qe qs
  have F4 : CFr sb I J I4 J4 := F3.trans f4.cfr
  have hpl := odd_pl g4
  have hpr : 3 ≤ whN b n (t + 2) ∧ whN b n (t + 2) ≤ 199 := ⟨(pl_rng _ hpl).1, (pl_rng _ hpl).2.1⟩
  refine wp_ifn (by decide) (b_getA hk h0 (b_ck hT.1 (b_eq (t_wholeNow hT c4) (b_eq (t_isOrderFor (p := whN b n (t + 2)) (by omega) whI_rng) (b_ck hk (wp_bd (t_takeWhole hk h0 hT c4 (fun g6 g7 I5 J5 f5 c5 => ?_) (fun g6 g7 => ?_) (fun g6 => ?_))))))))
  rotate_left
  · rw [whI_2 g6, show decide ((0 : Int) ≤ (whN b n (t + 4) : Int)) = true from by simp, Bool.true_and, Int.toNat_natCast] at g7
    rw [if_neg (fun q => q g6), if_pos g7] at qe
    exact wp_ifn (by decide) (wp_rt (qe 4 (t + 4) _ _ rfl (F4.trans CFr.i) st2_at (c4.o (by decide))))
  · rw [if_pos g6] at qe
    exact wp_ifn (by decide) (wp_rt (qe 1 (t + 4) _ _ rfl (F4.trans CFr.i) st2_at (c4.o (by decide))))
  rw [whI_2 g6, show decide ((0 : Int) ≤ (whN b n (t + 4) : Int)) = true from by simp, Bool.true_and, Int.toNat_natCast] at g7
  rw [if_neg (fun q => q g6), if_neg (by rw [g7]; decide)] at qs
  have F5 : CFr sb I J I5 J5 := F4.trans (CFr.i.trans f5.cfr)
  have hpm := pn_ord g4 g7
  have j9 : I5 65 9 = zn (whN b n (t + 4)) := by rw [f5.1 65 (by decide), st2_at]
  have n5 : J5 65 8 = vl kwC b n (t + 1) := by rw [f5.2.2 65 (by decide), f4.2.2 65 (by decide)]; exact n3
  have low : ∀ x, sb ≤ x → x < sb + 52 → I5 x = I x ∧ J5 x = J x := fun x a _ => by
    refine ⟨?_, ?_⟩
    · rw [f5.1 x (by omega), st2_nb (by omega), f4.1 x (by omega), f3.1 x (by omega), st2_nb (by omega), f2.1 x (by omega), st2_nb (by omega), f1.1 x (by omega)]
    · rw [f5.2.2 x (by omega), f4.2.2 x (by omega), f3.2.2 x (by omega), f2.2.2 x (by omega), st2_nb (by omega), f1.2.2 x (by omega)]
  refine wp_ifp (by decide) (b_getA hk h5 (b_getJv hk n5 (b_getIv hk j9 (b_ck hB.1 (wp_bd (t_tellField (by omega) hB (cB.lo okb low) (cN.lo low) okb (by omega) (by omega) hpm (fun I6 J6 f6 cB6 cN6 => wp_rt (qs _ _ _ I6 J6 rfl (F5.trans (CFr.bk f6)) ⟨?_, cB6, cN6, addFl_ok okb (by omega) hpm, addN_ok okn (by omega) (by decide) (by omega), ?_, ?_⟩ ?_))))))))
  · obtain ⟨⟨u1, u2, u3, u4⟩, ⟨v1, v2, v3⟩, z1, z2, z3, z4⟩ := c5
    have e : ∀ x, (x = 66 ∨ x = 67 ∨ x = 68 ∨ x = 69 ∨ x = 70 ∨ x = 71) → I6 x = I5 x ∧ J6 x = J5 x := fun x hx => f6 x (by omega)
    refine ⟨⟨u1, by rw [(e 66 (by omega)).1]; exact u2, fun i hi => ⟨(u3 i hi).1, by rw [(e 67 (by omega)).1]; exact (u3 i hi).2⟩, fun i hi => by rw [(e 68 (by omega)).2]; exact u4 i hi⟩, ⟨v1, by rw [(e 66 (by omega)).1]; exact v2, fun s hs => ⟨(v3 s hs).1, by rw [(e 69 (by omega)).1]; exact (v3 s hs).2.1, by rw [(e 70 (by omega)).2]; exact (v3 s hs).2.2.1, by rw [(e 71 (by omega)).1]; exact (v3 s hs).2.2.2⟩⟩, z1, by rw [(e 66 (by omega)).1]; exact z2, by rw [(e 66 (by omega)).1]; exact z3, by rw [(e 66 (by omega)).2]; exact z4⟩
  · show N.1 + 1 = bnf B + 1 + bne B + bnl B
    omega
  · rw [(f6 65 (by omega)).1, f5.1 65 (by decide), st2_nk (by decide), f4.1 65 (by decide), f3.1 65 (by decide), st2_nk (by decide), c65 11 (by decide)]; exact h11
  · rw [(f6 65 (by omega)).1, f5.1 65 (by decide), st2_nk (by decide), f4.1 65 (by decide), f3.1 65 (by decide), st2_nk (by decide), c65 13 (by decide)]
end
