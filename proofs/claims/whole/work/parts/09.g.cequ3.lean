/-! ===== an equation's line: the class reads it ===== -/
section
variable {β : Type} {kw : Nat → Int64} {K : List (Nat × Nat)} {I I' : Nat → Nat → Int32} {J J' : Nat → Nat → Int64} {A : Nat → Nat → Option Nat} {w : WD}
variable {b : Nat → Nat} {n T t sb m : Nat} {B : BKD} {N : NMD} {A' : Nat → Nat → Option Nat}
theorem sInF_f {f s : Nat} (h : sInF b n N t = Sum.inr (f, s)) : fnN N (vl kwC b n (t + 1)) 0 = some f ∧ s = t + 2 := by
  unfold sInF at h
  by_cases h1 : isW b n t 4 = false
  · rw [if_pos h1] at h; exact absurd h (by simp)
  · rw [if_neg h1] at h
    by_cases h2 : kd' kwC b n (t + 1) ≠ 5
    · rw [if_pos h2] at h; exact absurd h (by simp)
    · rw [if_neg h2] at h
      cases h3 : fnN N (vl kwC b n (t + 1)) 0 with
      | none => rw [h3] at h; exact absurd h (by simp)
      | some f' =>
        rw [h3] at h
        have := Prod.mk.inj (Sum.inr.inj h)
        exact ⟨by rw [this.1], this.2.symm⟩
theorem okNB_equ {v : Int64} {f m' r : Nat} {c u : Nat → Nat} (h : okNB B N) : okNB (addEq B f m' r c u) (addN N v 1 (bne B)) := by
  intro k hk
  have hk' : k < N.1 + 1 := hk
  show (((if k = N.1 then (v, 1, bne B) else N.2 k) : Int64 × Nat × Nat).2.1 = 0 → ((if k = N.1 then (v, 1, bne B) else N.2 k) : Int64 × Nat × Nat).2.2 < bnf B) ∧ (((if k = N.1 then (v, 1, bne B) else N.2 k) : Int64 × Nat × Nat).2.1 = 1 → ((if k = N.1 then (v, 1, bne B) else N.2 k) : Int64 × Nat × Nat).2.2 < bne B + 1) ∧ (((if k = N.1 then (v, 1, bne B) else N.2 k) : Int64 × Nat × Nat).2.1 = 2 → ((if k = N.1 then (v, 1, bne B) else N.2 k) : Int64 × Nat × Nat).2.2 < bnl B)
  by_cases h1 : k = N.1
  · rw [if_pos h1]
    exact ⟨fun q => absurd q (by show ¬ (1 : Nat) = 0; decide), fun _ => Nat.lt_succ_self _, fun q => absurd q (by show ¬ (1 : Nat) = 2; decide)⟩
  · rw [if_neg h1]
    obtain ⟨x1, x2, x3⟩ := h k (by omega)
    exact ⟨x1, fun q => Nat.lt_succ_of_lt (x2 q), x3⟩
theorem t_cEqu {Q : Int32 → Hp → Prop} (hS : CSt K I A sb) (hC : CRd I J sb b n T B N t) (hNB : okNB B N) (hw : kd' kwC b n t ≠ 0)
    (qe : ∀ k s I' J' A', sEqu b n B N t = Sum.inl (k, s) → CFr sb I J I' J' → (∀ x j, (x ≠ 65 ∨ j ≠ 6) → A' x j = A x j) → I' 65 11 = zn k → CT I' J' kwC b n T s → Q 0 (K, I', J', A'))
    (qs : ∀ B' N' t' I' J' A', sEqu b n B N t = Sum.inr (B', N', t') → CFr sb I J I' J' → (∀ x j, (x ≠ 65 ∨ j ≠ 6) → A' x j = A x j) → CRd I' J' sb b n T B' N' t' → I' 65 13 = I 65 13 → PS K A' sb → okNB B' N' → Q 1 (K, I', J', A')) : wp (f_X3_readEquation (some 65)) Q (K, I, J, A) := by
  obtain ⟨hP, hO, hSK, hsb⟩ := hS
  have hP' := hP
  obtain ⟨hk, ⟨h0, h1, h2, h3, h4, h5⟩, hT, hR, d1, d2, d3, hB⟩ := hP'
  obtain ⟨cT, cB, cN, okb, okn, hsum, h11⟩ := hC
  have hf4 := okb.1.1
  have he4 := okb.2.1.1
  have hl8 := okb.2.2.1
  unfold f_X3_readEquation
  refine b_getA hk h5 (b_ck hB.1 (b_eq (t_nextEq hB cB he4) ?_))
  unfold sEqu at qe qs
  by_cases hne : bne B = 4
  · rw [if_pos hne] at qe
    rw [if_pos hne]
    exact wp_ifp rfl (e_blame (k := 5) hk (qe 5 t _ _ _ rfl CFr.i (fun _ _ _ => rfl) st2_at (cT.o (by decide))))
  rw [if_neg hne] at qe qs
  rw [if_neg hne]
  have hE := (hB.2.2.2.2.2 (bne B) (by omega)).2
  refine wp_ifn (by simp) (b_getA hk h0 (b_ck hT.1 (wp_bd (t_cstep hT cT hw (fun I1 J1 f1 c1 => ?_)))))
  have cN1 : NmC I1 J1 sb N := cN.lo (fun x a _ => ⟨f1.1 x (by omega), f1.2.2 x (by omega)⟩)
  have F1 : CFr sb I J I1 J1 := f1.cfr
  refine b_ck hk (wp_bd (t_takeNewName hP cN1 okn c1 (fun g1 g2 I2 J2 f2 c2 => ?_) (fun g1 g2 => ?_) (fun g1 => ?_)))
  rotate_left
  · rw [if_neg (fun q => q g1), if_pos g2] at qe
    exact wp_ifp rfl (wp_rt (qe 3 (t + 1) _ _ _ rfl (F1.trans CFr.i) (fun _ _ _ => rfl) st2_at (c1.o (by decide))))
  · rw [if_pos g1] at qe
    exact wp_ifp rfl (wp_rt (qe 1 (t + 1) _ _ _ rfl (F1.trans CFr.i) (fun _ _ _ => rfl) st2_at (c1.o (by decide))))
  rw [if_neg (fun q => q g1), if_neg (by rw [g2]; decide)] at qe qs
  have F2 : CFr sb I J I2 J2 := F1.trans (CFr.i.trans (CFr.j.trans f2.cfr))
  have n2 : J2 65 8 = vl kwC b n (t + 1) := by rw [f2.2.2 65 (by decide), st2_at]
  have c65 : ∀ j, j ≠ 12 → I2 65 j = I 65 j := fun j hj => by rw [f2.1 65 (by decide), st2_nk hj, f1.1 65 (by decide)]
  have low2 : ∀ x, sb ≤ x → x < sb + 52 → I2 x = I x ∧ J2 x = J x := fun x a _ => ⟨by rw [f2.1 x (by omega), st2_nb (by omega), f1.1 x (by omega)], by rw [f2.2.2 x (by omega), st2_nb (by omega), f1.2.2 x (by omega)]⟩
  refine wp_ifn (by decide) (b_ck hk (wp_bd (t_takeInField hP (cB.lo okb low2) (cN.lo low2) okb okn hNB (by omega) c2 (fun k s I3 J3 g3 a1 a2 a3 a4 c3 => ?_) (fun f I3 J3 g3 a1 a2 a3 a4 c3 => ?_))))
  · rw [g3] at qe
    refine wp_ifp rfl (wp_rt (qe k s I3 J3 _ rfl (F2.trans ?_) (fun _ _ _ => rfl) a4 c3))
    exact fun x hx => a1 x (fun q => hx (by unfold crg; omega)) (fun q => hx (by unfold crg; omega))
  rw [g3] at qe qs
  dsimp only at qe qs
  have hf : f < bnf B := fnN_ok hNB (sInF_f g3).1
  have hpn := okb.1.2 f hf
  obtain ⟨hp1, hp2, hm1, hm2⟩ := pn_rng hpn
  have F3 : CFr sb I J I3 J3 := F2.trans (fun x hx => a1 x (fun q => hx (by unfold crg; omega)) (fun q => hx (by unfold crg; omega)))
  have hP3 : PS K (st2 A 65 6 (some (sb + 16 + 4 * f))) sb := hP.a6 hsb
  have hA3 : ∀ x j, (x ≠ 65 ∨ j ≠ 6) → st2 A 65 6 (some (sb + 16 + 4 * f)) x j = A x j := fun x j h => by rw [st2_app, if_neg (by omega)]
  obtain ⟨hk3, ⟨h03, h13, h23, h33, h43, h53⟩, hT3, hR3, d13, d23, d33, hB3⟩ := hP3
  have hP3 : PS K (st2 A 65 6 (some (sb + 16 + 4 * f))) sb := hP.a6 hsb
  have hE3 := (hB3.2.2.2.2.2 (bne B) (by omega)).2
  have hFS := (hB3.2.2.2.2.1 f (by omega)).2
  refine wp_ifn (by decide) (b_ck hk3 (wp_bd (t_takeWord (i := 5) hk3 h03 hT3 c3 (fun g5 I4 J4 f4 c4 => ?_) (fun g5 => ?_))))
  rotate_left
  · rw [if_pos g5] at qe
    exact wp_ifn (by decide) (wp_rt (qe 1 (t + 4) _ _ _ rfl (F3.trans CFr.i) hA3 st2_at (c3.o (by decide))))
  rw [if_neg (by rw [g5]; decide)] at qe qs
  have F4 : CFr sb I J I4 J4 := F3.trans f4.cfr
  have low4 : ∀ x, sb ≤ x → x < sb + 52 → I4 x = I x ∧ J4 x = J x := fun x a a' => ⟨by rw [f4.1 x (by omega), (a1 x (by omega) (by omega)).1]; exact (low2 x a a').1, by rw [f4.2.2 x (by omega), (a1 x (by omega) (by omega)).2]; exact (low2 x a a').2⟩
  have cB4 := cB.lo okb low4
  have hFC := cB4.2.1 f hf
  refine wp_ifp (by decide) (b_getA hk3 st2_at (b_ck hFS.1 (b_eq (t_prime hFS hFC) (b_ck hE3.1 (b_eq (t_eqBegin hE3) ?_)))))
  have cT4 := (c4.o (x := sb + 32 + 5 * bne B) (j := 4) (v := zn (bfp B f)) (by omega)).o (x := sb + 32 + 5 * bne B) (j := 5) (v := 0) (by omega)
  refine b_ck hk3 (wp_bd (t_cTerms hP3 hE3 ⟨hp1, hp2⟩ (by omega) 5 0 fuel (t + 5) (fun _ => 0) (fun _ => 0) _ J4 (by omega) (by omega) (by unfold fuel; omega) eu_begin cT4 (fun kk s I5 J5 g6 b1 b2 b3 b4 c5 => ?_) (fun m' c' u' t' I5 J5 g6 b1 b2 b3 hU c5 => ?_)))
  · rw [g6] at qe
    refine wp_ifp rfl (wp_rt (qe kk s I5 J5 _ rfl (F4.trans ?_) hA3 b4 c5))
    exact fun x hx => ⟨by rw [b1 x (fun q => hx (by unfold crg; omega)) (fun q => hx (by unfold crg; omega)) (fun q => hx (by unfold crg; omega)) (fun q => hx (by unfold crg; omega)) (fun q => hx (by unfold crg; omega)), st2_nb (fun q => hx (by unfold crg; omega)), st2_nb (fun q => hx (by unfold crg; omega))], b2 x (fun q => hx (by unfold crg; omega))⟩
  rw [g6] at qe qs
  dsimp only at qe qs
  have hokE := sTms_ok (by omega) 5 0 _ _ _ _ _ _ _ (by omega) (fun s hs => absurd hs (Nat.not_lt_zero s)) g6
  have F5 : CFr sb I J I5 J5 := F4.trans (fun x hx => ⟨by rw [b1 x (fun q => hx (by unfold crg; omega)) (fun q => hx (by unfold crg; omega)) (fun q => hx (by unfold crg; omega)) (fun q => hx (by unfold crg; omega)) (fun q => hx (by unfold crg; omega)), st2_nb (fun q => hx (by unfold crg; omega)), st2_nb (fun q => hx (by unfold crg; omega))], b2 x (fun q => hx (by unfold crg; omega))⟩)
  have low5 : ∀ x, sb ≤ x → x < sb + 52 → x ≠ sb + 32 + 5 * bne B → x ≠ sb + 32 + 5 * bne B + 1 → x ≠ sb + 32 + 5 * bne B + 2 → I5 x = I x := fun x a a' z1 z2 z3 => by rw [b1 x (by omega) (by omega) z1 z2 z3, st2_nb z1, st2_nb z1]; exact (low4 x a a').1
  have low5j : ∀ x, sb ≤ x → x < sb + 52 → J5 x = J x := fun x a a' => by rw [b2 x (by omega)]; exact (low4 x a a').2
  refine wp_ifn (by decide) (b_ck hk3 (wp_bd (t_takeWord (i := 7) hk3 h03 hT3 c5 (fun g7 I6 J6 f6 c6 => ?_) (fun g7 => ?_))))
  rotate_left
  · rw [if_pos g7] at qe
    exact wp_ifn (by decide) (wp_rt (qe 1 t' _ _ _ rfl (F5.trans CFr.i) hA3 st2_at (c5.o (by decide))))
  rw [if_neg (by rw [g7]; decide)] at qe qs
  have F6 : CFr sb I J I6 J6 := F5.trans f6.cfr
  have hFC6 : FC I6 (sb + 16 + 4 * f) (bfp B f) (bfn B f) := hFC.mv (by rw [f6.1 _ (by omega), low5 _ (by omega) (by omega) (by omega) (by omega) (by omega)]; exact (low4 _ (by omega) (by omega)).1.symm) (by rw [f6.1 _ (by omega), low5 _ (by omega) (by omega) (by omega) (by omega) (by omega)]; exact (low4 _ (by omega) (by omega)).1.symm) (by rw [f6.1 _ (by omega), low5 _ (by omega) (by omega) (by omega) (by omega) (by omega)]; exact (low4 _ (by omega) (by omega)).1.symm)
  refine wp_ifp (by decide) (b_getA hk3 h03 (b_getA hk3 st2_at (b_ck hFS.1 (b_eq (t_prime hFS hFC6) ?_))))
  rw [zn_pred1 (by omega)]
  refine b_ck hT3.1 (b_eq (t_atWholeWithin (lo := 0) hT3 c6 (by omega) (by omega)) (b_ck hk3 (wp_bd (t_takeWhole hk3 h03 hT3 c6 (fun g8 g9 I7 J7 f7 c7 => ?_) (fun g8 g9 => ?_) (fun g8 => ?_)))))
  rotate_left
  · rw [if_neg (fun q => q g8), if_pos (show inR b n (t' + 1) 0 (bfp B f - 1) = false from g9)] at qe
    exact wp_ifn (by decide) (wp_rt (qe 4 (t' + 1) _ _ _ rfl (F6.trans CFr.i) hA3 st2_at (c6.o (by decide))))
  · rw [if_pos g8] at qe
    exact wp_ifn (by decide) (wp_rt (qe 1 (t' + 1) _ _ _ rfl (F6.trans CFr.i) hA3 st2_at (c6.o (by decide))))
  rw [if_neg (fun q => q g8), if_neg (by rw [show inR b n (t' + 1) 0 (bfp B f - 1) = true from g9]; decide)] at qs
  have F7 : CFr sb I J I7 J7 := F6.trans (CFr.i.trans f7.cfr)
  have i9 : I7 65 9 = zn (whN b n (t' + 1)) := by rw [f7.1 65 (by decide), st2_at]
  have hr9 : whN b n (t' + 1) < bfp B f := by
    simp only [Bool.and_eq_true, decide_eq_true_eq] at g9
    omega
  have n7 : J7 65 8 = vl kwC b n (t + 1) := by
    rw [f7.2.2 65 (by decide), f6.2.2 65 (by decide), b2 65 (by decide), f4.2.2 65 (by decide), a3]; exact n2
  have low7 : ∀ x, sb ≤ x → x < sb + 52 → x ≠ sb + 32 + 5 * bne B → x ≠ sb + 32 + 5 * bne B + 1 → x ≠ sb + 32 + 5 * bne B + 2 → I7 x = I x := fun x a a' z1 z2 z3 => by rw [f7.1 x (by omega), st2_nb (by omega), f6.1 x (by omega)]; exact low5 x a a' z1 z2 z3
  have low7j : ∀ x, sb ≤ x → x < sb + 52 → J7 x = J x := fun x a a' => by rw [f7.2.2 x (by omega), f6.2.2 x (by omega)]; exact low5j x a a'
  have hU7 : EU I7 (sb + 32 + 5 * bne B) (bfp B f) m' c' u' := ⟨by rw [f7.1 _ (by omega), st2_nb (by omega), f6.1 _ (by omega)]; exact hU.1, by rw [f7.1 _ (by omega), st2_nb (by omega), f6.1 _ (by omega)]; exact hU.2.1, fun s hs => ⟨by rw [f7.1 _ (by omega), st2_nb (by omega), f6.1 _ (by omega)]; exact (hU.2.2 s hs).1, by rw [f7.1 _ (by omega), st2_nb (by omega), f6.1 _ (by omega)]; exact (hU.2.2 s hs).2⟩⟩
  refine wp_ifp (by decide) (b_getIv hk3 i9 (b_ck hE3.1 (b_eq (t_eqClose hE3) (b_getA hk3 h53 (b_getJv hk3 n7 (b_ck hB3.1 ?_))))))
  have hN8 : NmC (st2 I7 (sb + 32 + 5 * bne B) 6 (zn (whN b n (t' + 1)))) J7 sb N := ⟨by rw [st2_nb (by omega), low7 sb (by omega) (by omega) (by omega) (by omega) (by omega)]; exact cN.1, fun k hk => ⟨by rw [low7j _ (by omega) (by omega)]; exact (cN.2 k hk).1, by rw [st2_nb (by omega), low7 _ (by omega) (by omega) (by omega) (by omega) (by omega)]; exact (cN.2 k hk).2.1, by rw [st2_nb (by omega), low7 _ (by omega) (by omega) (by omega) (by omega) (by omega)]; exact (cN.2 k hk).2.2⟩⟩
  refine wp_bd (t_tellEquation (x := bne B) (by omega) hB3 (by rw [st2_nb (by omega), low7 sb (by omega) (by omega) (by omega) (by omega) (by omega)]; exact cB.1.2.1) hN8 (by omega) (fun I9 J9 p1 p2 p3 p4 hN9 => wp_rt (qs _ _ _ I9 J9 _ rfl (F7.trans ?_) hA3 ⟨?_, ?_, hN9, addEq_ok okb (by omega) hf hokE hr9, addN_ok okn (by omega) (by decide) (by omega), ?_, ?_⟩ ?_ hP3 (okNB_equ hNB))))
  · exact fun x hx => ⟨by rw [p1 x (fun q => hx (by unfold crg; omega)) (fun q => hx (by unfold crg; omega)) (fun q => hx (by unfold crg; omega)), st2_nb (fun q => hx (by unfold crg; omega))], p4 x (fun q => hx (by unfold crg; omega))⟩
  · exact (c7.o (by omega)).lo (fun x _ _ => p1 x (by omega) (by omega) (by omega)) (fun x _ _ => p4 x (by omega))
  · refine cB.addE okb (by omega) ?_ p3 ?_ (fun x a a' z1 z2 z3 z4 z5 => ?_) (fun x a a' z1 => ?_) ?_
    · rw [p2 7 (by decide) (by decide), st2_nb (by omega), low7 sb (by omega) (by omega) (by omega) (by omega) (by omega)]
    · rw [p2 9 (by decide) (by decide), st2_nb (by omega), low7 sb (by omega) (by omega) (by omega) (by omega) (by omega)]
    · rw [p1 x (by omega) z1 z2, st2_nb z3, low7 x (by omega) a' z3 z4 z5]
    · rw [p4 x z1, low7j x a a']
    · exact (hU7.close).mv (p1 _ (by omega) (by omega) (by omega)) (p1 _ (by omega) (by omega) (by omega)) (p1 _ (by omega) (by omega) (by omega))
  · show N.1 + 1 = bnf B + (bne B + 1) + bnl B
    omega
  · rw [p1 65 (by omega) (by omega) (by omega), st2_nb (by omega), f7.1 65 (by decide), st2_nk (by decide), f6.1 65 (by decide), b3 11 (by decide), st2_nb (by omega), st2_nb (by omega), f4.1 65 (by decide), a2 11 (by decide), c65 11 (by decide)]; exact h11
  · rw [p1 65 (by omega) (by omega) (by omega), st2_nb (by omega), f7.1 65 (by decide), st2_nk (by decide), f6.1 65 (by decide), b3 13 (by decide), st2_nb (by omega), st2_nb (by omega), f4.1 65 (by decide), a2 13 (by decide), c65 13 (by decide)]
end
