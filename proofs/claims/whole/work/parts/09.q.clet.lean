/-! ===== a let's line: the class ===== -/
def addLt (B : BKD) (f : Nat) (r : Nat → Int64) : BKD := (B.1, B.2.1, (bnl B + 1, fun l => if l = bnl B then (f, r) else B.2.2.2 l))
def sLetC (b : Nat → Nat) (n : Nat) (B : BKD) (N : NMD) (t : Nat) : (Nat × Nat) ⊕ (BKD × NMD × Nat × Bool) :=
  if bnl B = 8 then Sum.inl (5, t)
  else if kd' kwC b n (t + 1) ≠ 5 then Sum.inl (1, t + 1)
  else if (rk N (vl kwC b n (t + 1))).isSome = true then Sum.inl (3, t + 1)
  else match sInF b n N (t + 2) with
    | Sum.inl e => Sum.inl e
    | Sum.inr ft => if isW b n (t + 4) 8 = false then Sum.inl (1, t + 4)
      else match suX b n (bfp B ft.1) (bfn B ft.1) ft.1 B N (t + 5) false with
        | Sum.inl e => Sum.inl e
        | Sum.inr q => Sum.inr (addLt B ft.1 q.1, addN N (vl kwC b n (t + 1)) 2 (bnl B), q.2.2, q.2.1)
section
variable {β : Type} {kw : Nat → Int64} {K : List (Nat × Nat)} {I I' : Nat → Nat → Int32} {J J' : Nat → Nat → Int64} {A : Nat → Nat → Option Nat} {w : WD}
variable {b : Nat → Nat} {n T t sb m : Nat} {B : BKD} {N : NMD} {A' : Nat → Nat → Option Nat}
theorem addLt_ok {f : Nat} {r : Nat → Int64} (hk : okB B) (hnl : bnl B < 8) (hf : f < bnf B) (h1 : ∀ i, 10 ≤ i → r i = 0) (h2 : hug 10 r = false) : okB (addLt B f r) := by
  obtain ⟨⟨o1, o2⟩, ⟨o3, o4⟩, ⟨o5, o6⟩⟩ := hk
  refine ⟨⟨o1, o2⟩, ⟨o3, o4⟩, ⟨by show bnl B + 1 ≤ 8; omega, fun l hl => ?_⟩⟩
  have hl' : l < bnl B + 1 := hl
  unfold blf blr addLt
  by_cases h : l = bnl B
  · simp only [h, if_true]
    exact ⟨hf, h1, h2⟩
  · simp only [h, if_false]
    exact o6 l (by omega)
theorem okNB_let {v : Int64} {f : Nat} {r : Nat → Int64} (h : okNB B N) : okNB (addLt B f r) (addN N v 2 (bnl B)) := by
  intro k hk
  have hk' : k < N.1 + 1 := hk
  show (((if k = N.1 then (v, 2, bnl B) else N.2 k) : Int64 × Nat × Nat).2.1 = 0 → ((if k = N.1 then (v, 2, bnl B) else N.2 k) : Int64 × Nat × Nat).2.2 < bnf B) ∧ (((if k = N.1 then (v, 2, bnl B) else N.2 k) : Int64 × Nat × Nat).2.1 = 1 → ((if k = N.1 then (v, 2, bnl B) else N.2 k) : Int64 × Nat × Nat).2.2 < bne B) ∧ (((if k = N.1 then (v, 2, bnl B) else N.2 k) : Int64 × Nat × Nat).2.1 = 2 → ((if k = N.1 then (v, 2, bnl B) else N.2 k) : Int64 × Nat × Nat).2.2 < bnl B + 1)
  by_cases h1 : k = N.1
  · rw [if_pos h1]
    exact ⟨fun q => absurd q (by show ¬ (2 : Nat) = 0; decide), fun q => absurd q (by show ¬ (2 : Nat) = 1; decide), fun _ => Nat.lt_succ_self _⟩
  · rw [if_neg h1]
    obtain ⟨x1, x2, x3⟩ := h k (by omega)
    exact ⟨x1, x2, fun q => Nat.lt_succ_of_lt (x3 q)⟩
theorem t_tellLet {Q : Unit → Hp → Prop} {v : Int64} {f s : Nat} {r : Nat → Int64} (hb : 104 ≤ sb) (hB : CBS K A sb) (hC : CBC I J sb B) (hN : NmC I J sb N) (hk : okB B) (hnl : bnl B < 8) (hN1 : N.1 < 16) (hs : kk K s = (2, 10)) (hsl : s < sb) (hr : ∀ i, i < 10 → J s i = r i)
    (q : ∀ I' J', (∀ x, ¬ (sb ≤ x ∧ x < sb + 52) → I' x = I x ∧ J' x = J x) → CBC I' J' sb (addLt B f r) → NmC I' J' sb (addN N v 2 (bnl B)) → Q () (K, I', J', A)) : wp (f_X0_tellLet (some sb) v (zn f) (some s)) Q (K, I, J, A) := by
  have hB' := hB
  obtain ⟨b0, ⟨a0, a1, a2, a3, a4, a5, a6⟩, ⟨k1, k2, k3, k12, k13, k14, k15⟩, hl, hf, he⟩ := hB'
  obtain ⟨l1, l2⟩ := hl (bnl B) hnl
  obtain ⟨⟨c7, c8, c9⟩, cF, cE, cL⟩ := hC
  unfold f_X0_tellLet
  refine b_getA b0 a2 (b_getIv b0 c9 (b_eq (t_rowAt k3 (by omega) (by omega)) ?_))
  rw [l1]
  refine wp_bd (t_copy hs l2 (by omega) (by omega) (by omega) (by omega) (fun J1 f1 v1 => ?_))
  refine b_getA b0 a3 (b_getIv b0 c9 (b_eq (t_mark k12 (by omega) (by omega) (by omega)) ?_))
  have c9' : st2 I (sb + 12) (bnl B) (zn f) sb 9 = zn (bnl B) := by rw [st2_nb (by omega)]; exact c9
  have hN2 : NmC (st2 I (sb + 12) (bnl B) (zn f)) J1 sb N := ⟨by rw [st2_nb (by omega)]; exact hN.1, fun k hk => ⟨by rw [f1 _ (by omega)]; exact (hN.2 k hk).1, by rw [st2_nb (by omega)]; exact (hN.2 k hk).2.1, by rw [st2_nb (by omega)]; exact (hN.2 k hk).2.2⟩⟩
  refine b_getIv b0 c9' (b_ck b0 (wp_bd (t_tell (s := 2) (by omega) hB hN2 hN1 (fun I2 J2 g1 g2 g3 hN3 => ?_))))
  refine b_getIv b0 ((g2 9 (by decide)).trans c9') (b_putI b0 (by omega) (wp_rt ?_))
  rw [zn_succ]
  have eI : ∀ x, x ≠ sb → x ≠ sb + 12 → x ≠ sb + 14 → x ≠ sb + 15 → st2 I2 sb 9 (zn (bnl B + 1)) x = I x := fun x z1 z2 z3 z4 => by rw [st2_nb z1, g1 x z1 z3 z4, st2_nb z2]
  have eJ : ∀ x, x ≠ sb + 13 → x ≠ sb + 4 + bnl B → J2 x = J x := fun x z1 z2 => by rw [g3 x z1, f1 x z2]
  refine q _ _ (fun x hx => ⟨eI x (by omega) (by omega) (by omega) (by omega), eJ x (by omega) (by omega)⟩) ⟨⟨?_, ?_, st2_at⟩, fun f hf => ?_, fun i hi => ?_, fun l hl => ?_⟩ ⟨?_, fun k hk => ?_⟩
  · rw [st2_nk (by decide), g2 7 (by decide), st2_nb (by omega)]; exact c7
  · rw [st2_nk (by decide), g2 8 (by decide), st2_nb (by omega)]; exact c8
  · have hf' : f < bnf B := hf
    have := hk.1.1
    exact (cF f hf').mv (eI _ (by omega) (by omega) (by omega) (by omega)) (eI _ (by omega) (by omega) (by omega) (by omega)) (eI _ (by omega) (by omega) (by omega) (by omega))
  · have hi' : i < bne B := hi
    have := hk.2.1.1
    exact (cE i hi').mv (eI _ (by omega) (by omega) (by omega) (by omega)) (eI _ (by omega) (by omega) (by omega) (by omega)) (eI _ (by omega) (by omega) (by omega) (by omega))
  · have hl' : l < bnl B + 1 := hl
    by_cases h : l = bnl B
    · subst h
      have e1 : blf (addLt B f r) (bnl B) = f := by unfold blf addLt; simp
      have e2 : blr (addLt B f r) (bnl B) = r := by unfold blr addLt; simp
      rw [e1, e2]
      refine ⟨by rw [st2_nb (by omega), g1 _ (by omega) (by omega) (by omega), st2_at], fun i hi => ?_⟩
      rw [g3 _ (by omega), v1 i hi, if_pos hi]; exact hr i hi
    · have e1 : blf (addLt B f r) l = blf B l := by unfold blf addLt; simp [h]
      have e2 : blr (addLt B f r) l = blr B l := by unfold blr addLt; simp [h]
      rw [e1, e2]
      refine ⟨by rw [st2_nb (by omega), g1 _ (by omega) (by omega) (by omega), st2_nk h]; exact (cL l (by omega)).1, fun i hi => ?_⟩
      rw [eJ _ (by omega) (by omega)]; exact (cL l (by omega)).2 i hi
  · rw [st2_nk (by decide)]; exact hN3.1
  · obtain ⟨x1, x2, x3⟩ := hN3.2 k hk
    exact ⟨x1, by rw [st2_nb (by omega)]; exact x2, by rw [st2_nb (by omega)]; exact x3⟩
theorem XF.cfr {a c e : Nat} (h : XF a c e I J I' J') (ha : 75 ≤ a) (hc : 85 ≤ c) (he : 95 ≤ e) : CFr sb I J I' J' := fun x hx => ⟨h.1 x (fun q => hx (by unfold crg; omega)) (fun q => hx (by unfold crg; omega)), h.2.2 x (fun q => hx (by unfold crg; omega)) (fun q => hx (by unfold crg; omega)) (fun q => hx (by unfold crg; omega)) (fun q => hx (by unfold crg; omega)) (fun q => hx (by unfold crg; omega))⟩
theorem t_cLet {Q : Int32 → Hp → Prop} (hS : CSt K I A sb) (hC : CRd I J sb b n T B N t) (hNB : okNB B N) (hw : kd' kwC b n t ≠ 0) (h13 : I 65 13 = 0)
    (qe : ∀ k s I' J' A', sLetC b n B N t = Sum.inl (k, s) → CFr sb I J I' J' → (∀ x j, (x ≠ 65 ∨ j ≠ 6) → A' x j = A x j) → I' 65 11 = zn k → CT I' J' kwC b n T s → Q 0 (K, I', J', A'))
    (qs : ∀ B' N' t' H' I' J' A', sLetC b n B N t = Sum.inr (B', N', t', H') → CFr sb I J I' J' → (∀ x j, (x ≠ 65 ∨ j ≠ 6) → A' x j = A x j) → CT I' J' kwC b n T t' → I' 65 13 = b01 H' → I' 65 12 = zn (ps b n (t + 1)) → (H' = false → CRd I' J' sb b n T B' N' t' ∧ okNB B' N') → PS K A' sb → Q 1 (K, I', J', A')) : wp (f_X3_readLet (some 65)) Q (K, I, J, A) := by
  obtain ⟨hP, hO, hSK, hsb⟩ := hS
  have hP' := hP
  obtain ⟨hk, ⟨h0, h1, h2, h3, h4, h5⟩, hT, hR, d1, d2, d3, hB⟩ := hP'
  obtain ⟨cT, cB, cN, okb, okn, hsum, h11⟩ := hC
  have hf4 := okb.1.1
  have he4 := okb.2.1.1
  have hl8 := okb.2.2.1
  have hn := cT.1.1
  unfold f_X3_readLet f_X0_letsHeld
  refine b_getA hk h5 (b_ck hB.1 (b_assoc (b_getIv hB.1 cB.1.2.2 (b_rt ?_))))
  unfold sLetC at qe qs
  by_cases hnl : bnl B = 8
  · rw [if_pos hnl] at qe
    rw [hnl]
    exact wp_ifn (by decide) (e_blame (k := 5) hk (qe 5 t _ _ _ rfl CFr.i (fun _ _ _ => rfl) st2_at (cT.o (by decide))))
  rw [if_neg hnl] at qe qs
  refine wp_ifp (lt_t (b := 8) (by omega)) (b_getA hk h0 (b_ck hT.1 (wp_bd (t_cstep hT cT hw (fun I1 J1 f1 c1 => ?_)))))
  have cN1 : NmC I1 J1 sb N := cN.lo (fun x a _ => ⟨f1.1 x (by omega), f1.2.2 x (by omega)⟩)
  have F1 : CFr sb I J I1 J1 := f1.cfr
  refine b_ck hk (wp_bd (t_takeNewName hP cN1 okn c1 (fun g1 g2 I2 J2 f2 c2 => ?_) (fun g1 g2 => ?_) (fun g1 => ?_)))
  rotate_left
  · rw [if_neg (fun q => q g1), if_pos g2] at qe
    exact wp_ifp rfl (wp_rt (qe 3 (t + 1) _ _ _ rfl (F1.trans CFr.i) (fun _ _ _ => rfl) st2_at (c1.o (by decide))))
  · rw [if_pos g1] at qe
    exact wp_ifp rfl (wp_rt (qe 1 (t + 1) _ _ _ rfl (F1.trans CFr.i) (fun _ _ _ => rfl) st2_at (c1.o (by decide))))
  rw [if_neg (fun q => q g1), if_neg (by rw [g2]; decide)] at qe qs
  have F2 : CFr sb I J I2 J2 := F1.trans (CFr.i.trans (CFr.j.trans f2.cfr))
  have n2 : J2 65 8 = vl kwC b n (t + 1) := by rw [f2.2.2 65 (by decide), st2_at]
  have p2 : I2 65 12 = zn (ps b n (t + 1)) := by rw [f2.1 65 (by decide), st2_at]
  have c65 : ∀ j, j ≠ 12 → I2 65 j = I 65 j := fun j hj => by rw [f2.1 65 (by decide), st2_nk hj, f1.1 65 (by decide)]
  have low2 : ∀ x, sb ≤ x → x < sb + 52 → I2 x = I x ∧ J2 x = J x := fun x a _ => ⟨by rw [f2.1 x (by omega), st2_nb (by omega), f1.1 x (by omega)], by rw [f2.2.2 x (by omega), st2_nb (by omega), f1.2.2 x (by omega)]⟩
  refine wp_ifn (by decide) (b_ck hk (wp_bd (t_takeInField hP (cB.lo okb low2) (cN.lo low2) okb okn hNB (by omega) c2 (fun k s I3 J3 g3 a1 a2 a3 a4 c3 => ?_) (fun f I3 J3 g3 a1 a2 a3 a4 c3 => ?_))))
  · rw [g3] at qe
    refine wp_ifp rfl (wp_rt (qe k s I3 J3 _ rfl (F2.trans ?_) (fun _ _ _ => rfl) a4 c3))
    exact fun x hx => a1 x (fun q => hx (by unfold crg; omega)) (fun q => hx (by unfold crg; omega))
  rw [g3] at qe qs
  dsimp only at qe qs
  have hf : f < bnf B := fnN_ok hNB (sInF_f g3).1
  have F3 : CFr sb I J I3 J3 := F2.trans (fun x hx => a1 x (fun q => hx (by unfold crg; omega)) (fun q => hx (by unfold crg; omega)))
  have hP3 : PS K (st2 A 65 6 (some (sb + 16 + 4 * f))) sb := hP.a6 hsb
  have hA3 : ∀ x j, (x ≠ 65 ∨ j ≠ 6) → st2 A 65 6 (some (sb + 16 + 4 * f)) x j = A x j := fun x j h => by rw [st2_app, if_neg (by omega)]
  obtain ⟨hk3, ⟨h03, h13', h23, h33, h43, h53⟩, hT3, hR3, d13, d23, d33, hB3⟩ := hP3
  have hP3 : PS K (st2 A 65 6 (some (sb + 16 + 4 * f))) sb := hP.a6 hsb
  refine wp_ifn (by decide) (b_ck hk3 (wp_bd (t_takeWord (i := 8) hk3 h03 hT3 c3 (fun g5 I4 J4 f4 c4 => ?_) (fun g5 => ?_))))
  rotate_left
  · rw [if_pos g5] at qe
    exact wp_ifp rfl (wp_rt (qe 1 (t + 4) _ _ _ rfl (F3.trans CFr.i) hA3 st2_at (c3.o (by decide))))
  rw [if_neg (by rw [g5]; decide)] at qe qs
  have F4 : CFr sb I J I4 J4 := F3.trans f4.cfr
  have low4 : ∀ x, sb ≤ x → x < sb + 52 → I4 x = I x ∧ J4 x = J x := fun x a a' => ⟨by rw [f4.1 x (by omega), (a1 x (by omega) (by omega)).1]; exact (low2 x a a').1, by rw [f4.2.2 x (by omega), (a1 x (by omega) (by omega)).2]; exact (low2 x a a').2⟩
  have j65 : ∀ j, j ≠ 12 → j ≠ 7 → I4 65 j = I 65 j := fun j z1 z2 => by rw [f4.1 65 (by decide), a2 j z2]; exact c65 j z1
  have hXS : XS K (st2 A 65 6 (some (sb + 16 + 4 * f))) sb B N f := ⟨hP3, hsb, okb, okn, hNB, hf, st2_at⟩
  have hO4 : OT K I4 := hO.ga Gr.rfl' (F4 0 (by unfold crg; omega)).1 (F4 1 (by unfold crg; omega)).1
  have X4 : XI K I4 J4 sb b n T B N f (t + 5) false := ⟨c4, ⟨hO4, cB.lo okb low4, cN.lo low4⟩, by rw [f4.1 65 (by decide)]; exact a4, by rw [j65 11 (by decide) (by decide)]; exact h11, by rw [j65 13 (by decide) (by decide)]; exact h13⟩
  refine wp_ifn (by decide) (b_ck hk3 (wp_bd (x_sum0 (b := b) (n := n) (T := T) hXS hn (t + 5) false I4 J4 _ X4 (fun k s I5 J5 g6 F5 e5 c5 => ?_) (fun r H5 t5 I5 J5 g6 F5 X5 r5 => ?_))))
  · rw [g6] at qe
    exact wp_ifn (by decide) (wp_rt (qe k s I5 J5 _ rfl (F4.trans (F5.cfr (by omega) (by omega) (by omega))) hA3 e5 c5))
  rw [g6] at qs
  dsimp only at qs
  have n5 : J5 65 8 = vl kwC b n (t + 1) := by
    rw [F5.2.2 65 (by omega) (by omega) (by omega) (by omega) (by omega), f4.2.2 65 (by decide), a3]; exact n2
  have a0 : st2 A 65 6 (some (sb + 16 + 4 * f)) 74 0 = some 75 := (d13.2 0 (by omega)).1
  have o0 : kk K 75 = (2, 10) := (d13.2 0 (by omega)).2
  refine wp_ifp (by decide) (b_getA hk3 h53 (b_getJv hk3 n5 (b_getIv hk3 X5.2.2.1 (b_getA hk3 h23 ?_))))
  rw [z_0]
  refine b_eq (t_rowAt d13.1 (by omega) (by omega)) ?_
  rw [a0]
  refine b_ck hB3.1 (wp_bd (t_tellLet (by omega) hB3 X5.2.1.2.1 X5.2.1.2.2 okb (by omega) (by omega) o0 (by omega) r5 (fun I6 J6 f6 cB6 cN6 => wp_rt (qs _ _ t5 H5 I6 J6 _ rfl (F4.trans ((F5.cfr (by omega) (by omega) (by omega)).trans (CFr.bk f6))) hA3 ?_ ?_ ?_ (fun hH => ⟨⟨?_, cB6, cN6, addLt_ok okb (by omega) hf ?_ ?_, addN_ok okn (by omega) (by decide) (by omega), ?_, ?_⟩, okNB_let hNB⟩) hP3))))
  · exact X5.1.lo (fun x _ _ => (f6 x (by omega)).1) (fun x _ _ => (f6 x (by omega)).2)
  · rw [(f6 65 (by omega)).1]; exact X5.2.2.2.2
  · rw [(f6 65 (by omega)).1, F5.2.1 12 (by decide) (by decide) (by decide) (by decide), f4.1 65 (by decide), a2 12 (by decide)]; exact p2
  · exact X5.1.lo (fun x _ _ => (f6 x (by omega)).1) (fun x _ _ => (f6 x (by omega)).2)
  · exact (suF_tame hn (prF_tame hn ⟨(pn_rng (okb.1.2 f hf)).2.2.1, (pn_rng (okb.1.2 f hf)).2.2.2⟩ (atX_tame hn (okb.1.2 f hf) okb hNB 8)) _ _ _ _ _ g6).2.1
  · exact ((suF_tame hn (prF_tame hn ⟨(pn_rng (okb.1.2 f hf)).2.2.1, (pn_rng (okb.1.2 f hf)).2.2.2⟩ (atX_tame hn (okb.1.2 f hf) okb hNB 8)) _ _ _ _ _ g6).2.2 hH).1
  · show N.1 + 1 = bnf B + bne B + (bnl B + 1)
    omega
  · rw [(f6 65 (by omega)).1]; exact X5.2.2.2.1
end
