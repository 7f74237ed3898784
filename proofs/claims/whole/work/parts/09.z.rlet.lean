/-! ===== a let's line: the reference ===== -/
/-- what reading may change in the reference: nothing below the book under way, but the reader's own -/
def RFr (rb : Nat) (I : Nat → Nat → Int32) (J : Nat → Nat → Int64) (A : Nat → Nat → Option Nat) (I' : Nat → Nat → Int32) (J' : Nat → Nat → Int64) (A' : Nat → Nat → Option Nat) : Prop :=
  (∀ x, x < rb → x ≠ 224 → I' x = I x) ∧ (∀ j, (j < 10 ∨ (16 < j ∧ j ≠ 18 ∧ j ≠ 19 ∧ j ≠ 20)) → I' 224 j = I 224 j) ∧ (∀ x, x < rb → x ≠ 224 → x ≠ 225 → x ≠ 226 → J' x = J x) ∧ (∀ j, j ≠ 17 → J' 224 j = J 224 j) ∧ ∀ x, x < rb → A' x = A x
/-- a line without its end -/
def sL0 (b : Nat → Nat) (n : Nat) (B : BKD) (N : NMD) (t : Nat) : SR :=
  if isW b n t 0 = true then sFld b n B N t else if isW b n t 1 = true then sEqu b n B N t else if isW b n t 2 = true then sLet b n B N t else Sum.inl (1, t)
section
variable {β : Type} {kw : Nat → Int64} {K : List (Nat × Nat)} {I I' : Nat → Nat → Int32} {J J' : Nat → Nat → Int64} {A : Nat → Nat → Option Nat} {w : WD}
variable {b : Nat → Nat} {n t m p f fo rb r dd R e : Nat} {B : BKD} {N : NMD} {at' : Nat → Bool → EX} {H : Bool} {A' A'' : Nat → Nat → Option Nat}
theorem RFr.rfl' : RFr rb I J A I J A := ⟨fun _ _ _ => rfl, fun _ _ => rfl, fun _ _ _ _ _ => rfl, fun _ _ => rfl, fun _ _ => rfl⟩
theorem RFr.trans {I'' : Nat → Nat → Int32} {J'' : Nat → Nat → Int64} (h : RFr rb I J A I' J' A') (g : RFr rb I' J' A' I'' J'' A'') : RFr rb I J A I'' J'' A'' := ⟨fun x a a' => (g.1 x a a').trans (h.1 x a a'), fun j hj => (g.2.1 j hj).trans (h.2.1 j hj), fun x a a' a'' a3 => (g.2.2.1 x a a' a'' a3).trans (h.2.2.1 x a a' a'' a3), fun j hj => (g.2.2.2.1 j hj).trans (h.2.2.2.1 j hj), fun x a => (g.2.2.2.2 x a).trans (h.2.2.2.2 x a)⟩
theorem YF.rfr {q : Nat} (h : YF q I J I' J') : RFr rb I J A I' J' A := ⟨fun x _ a => h.1 x a, h.2.1, fun x _ a a' a'' => h.2.2.1 x a a' a'', h.2.2.2.1, fun _ _ => rfl⟩
theorem REf.rfr (h : REf rb e I J I' J') : RFr rb I J A I' J' A := ⟨fun x a a' => h.1 x a' (by omega) (by omega), fun j hj => h.2.2.1 j (by omega), fun x _ a _ _ => h.2.2.2.1 x a, h.2.2.2.2, fun _ _ => rfl⟩
theorem RW.rfr (h : RW I J I' J') : RFr rb I J A I' J' A := h.yf.rfr (q := 0)
theorem RFr.hi (hb : 236 ≤ rb) (eI : ∀ x, x < rb → I' x = I x) (eJ : ∀ x, x < rb → J' x = J x) (eA : ∀ x, x < rb → A' x = A x) : RFr rb I J A I' J' A' := ⟨fun x a _ => eI x a, fun j _ => by rw [eI 224 (by omega)], fun x a _ _ _ => eJ x a, fun j _ => by rw [eJ 224 (by omega)], eA⟩
theorem sLet_end {q : BKD × NMD × Nat} (h : sLet b n B N t = Sum.inr q) : endT b n q.2.2 = true := by
  unfold sLet at h
  cases hc : sLetC b n B N t with
  | inl e => rw [hc] at h; exact absurd h (by simp)
  | inr z =>
    rw [hc] at h
    dsimp only at h
    by_cases hE : endT b n z.2.2.1 = true
    · rw [if_pos hE] at h
      by_cases hH : z.2.2.2 = true
      · rw [if_pos hH] at h; exact absurd h (by simp)
      · rw [if_neg hH] at h
        have := Sum.inr.inj h
        rw [← this]; exact hE
    · rw [if_neg hE] at h; exact absurd h (by simp)
theorem sLine_0 : sLine b n B N t = fin1 b n (sL0 b n B N t) := by
  unfold sLine sL0
  by_cases c0 : isW b n t 0 = true
  · rw [if_pos c0, if_pos c0]
  rw [if_neg c0, if_neg c0]
  by_cases c1 : isW b n t 1 = true
  · rw [if_pos c1, if_pos c1]
  rw [if_neg c1, if_neg c1]
  by_cases c2 : isW b n t 2 = true
  · rw [if_pos c2]
    unfold fin1
    cases hc : sLet b n B N t with
    | inl e => rfl
    | inr q => dsimp only; rw [sLet_end hc, if_pos rfl]
  · rw [if_neg c2]; rfl
theorem o_tailL {Q : Unit → Hp → Prop} (hM : MS K A 224) (h : I 224 11 = 5) (h4 : A 224 4 = some rb) (hB : BS K A rb) (hN : NmR I J rb N) (hO : okN N) (q : ∀ I', YF 0 I J I' J → I' 224 11 = 5 → I' 224 15 = I 224 15 → I' 224 16 = I 224 16 → Q () (K, I', J, A)) {Z : Int32 → Int64 → Int32 → Mo Unit} :
    wp (mBd (mGetI 11 12 (some 224)) (fun r3 => mBd (mCk 11 (some 224) (f_X13_readFresh (some 224))) (fun r4 => mBd (mCk 11 (some 224) (f_X13_readField (some 224))) (fun r5 => mBd (mCk 11 (some 224) (f_X13_needs (some 224) ((some 14)))) (fun _ => mBd (mPutI 11 18 (some 224) (0 : Int32)) (fun _ => mBd (mPutI 11 19 (some 224) (0 : Int32)) (fun _ => mBd (mPutZ 11 20 (some 224) (0 : Int32)) (fun _ => mBd (mGetI 11 11 (some 224)) (fun r6 => (if ¬ r6 = (5 : Int32) then Z r3 r4 r5 else mRt ())))))))))) Q (K, I, J, A) := by
  refine b_getI hM.1 (b_ck hM.1 (b_eq (o_fresh hM h h4 hB hN hO) (b_ck hM.1 (b_eq (o_readField hM h h4 hB hN hO) (b_ck hM.1 (b_eq (o_needs hM h) (b_putI hM.1 (by decide) (b_putI hM.1 (by decide) (b_putZ hM.1 (by decide) (by decide) ?_)))))))))
  have e : st2 (st2 (st2 I 224 18 0) 224 19 0) 224 20 0 224 11 = 5 := by rw [st2_nk (by decide), st2_nk (by decide), st2_nk (by decide)]; exact h
  refine b_getIv hM.1 e (wp_ifn (by decide) (wp_rt (q _ ((YF.i (j := 18) (by omega)).trans ((YF.i (j := 19) (by omega)).trans (YF.i (j := 20) (by omega)))) e ?_ ?_)))
  · rw [st2_nk (by decide), st2_nk (by decide), st2_nk (by decide)]
  · rw [st2_nk (by decide), st2_nk (by decide), st2_nk (by decide)]
theorem RBC.addL {f : Nat} {y : Nat → Int64} (hk : okB B) (h : RBC K I J A rb B) (hB : BS K A rb) (hb : 236 ≤ rb) (hnl : bnl B < 8) (e0 : I' rb 0 = I rb 0) (e1 : I' rb 1 = I rb 1) (e2 : I' rb 2 = zn (bnl B + 1))
    (eI : ∀ x, 236 ≤ x → x ≠ rb → x ≠ rb + 7 → x ≠ rb + 10 → x ≠ rb + 11 → I' x = I x) (eJ : ∀ x, 236 ≤ x → x ≠ rb + 8 → x ≠ rb + 9 → J' x = J x)
    (e7 : ∀ l, l < bnl B → I' (rb + 7) l = I (rb + 7) l) (e7' : I' (rb + 7) (bnl B) = zn f) (e8 : ∀ j, j < bnl B * 12 → J' (rb + 8) j = J (rb + 8) j) (e8' : ∀ i, i < 12 → J' (rb + 8) (bnl B * 12 + i) = y i) : RBC K I' J' A rb (addLt B f y) := by
  obtain ⟨⟨o1, o2⟩, ⟨o3, o4⟩, ⟨o5, o6⟩⟩ := hk
  obtain ⟨⟨x1, x2, x3⟩, x4, x5, x6⟩ := h
  refine ⟨⟨e0.trans x1, e1.trans x2, e2⟩, fun g hg => ?_, fun i hi => ?_, fun l hl => ?_⟩
  · have hg' : g < bnf B := hg
    obtain ⟨fo, z1, z2, z3, z4⟩ := x4 g hg'
    have d0 := hB.out z3.1 (Or.inl rfl)
    have d1 := hB.out z3.2.2.1.1 (Or.inr (Or.inl rfl))
    have d2 := hB.out z3.2.2.1.2 (Or.inr (Or.inr rfl))
    exact ⟨fo, z1, z2, z3, (z4.mvI (eI _ (by omega) (by omega) (by omega) (by omega) (by omega)) (eI _ (by omega) (by omega) (by omega) (by omega) (by omega))).mv (eJ _ (by omega) (by omega) (by omega))⟩
  · have hi' : i < bne B := hi
    obtain ⟨z1, z2, z3, z4⟩ := x5 i hi'
    exact ⟨by rw [eI _ (by omega) (by omega) (by omega) (by omega) (by omega)]; exact z1, by rw [eI _ (by omega) (by omega) (by omega) (by omega) (by omega)]; exact z2, by rw [eI _ (by omega) (by omega) (by omega) (by omega) (by omega)]; exact z3, fun t ht => ⟨by rw [eI _ (by omega) (by omega) (by omega) (by omega) (by omega)]; exact (z4 t ht).1, by rw [eI _ (by omega) (by omega) (by omega) (by omega) (by omega)]; exact (z4 t ht).2⟩⟩
  · have hl' : l < bnl B + 1 := hl
    by_cases h : l = bnl B
    · subst h
      have e1 : blf (addLt B f y) (bnl B) = f := by unfold blf addLt; simp
      have e2 : blr (addLt B f y) (bnl B) = y := by unfold blr addLt; simp
      rw [e1, e2]
      exact ⟨e7', e8'⟩
    · have e1 : blf (addLt B f y) l = blf B l := by unfold blf addLt; simp [h]
      have e2 : blr (addLt B f y) l = blr B l := by unfold blr addLt; simp [h]
      rw [e1, e2]
      refine ⟨by rw [e7 l (by omega)]; exact (x6 l (by omega)).1, fun i hi => ?_⟩
      rw [e8 _ (by omega)]; exact (x6 l (by omega)).2 i hi
/-- the let is put into the book -/
theorem t_j122 {Q : Unit → Hp → Prop} {v : Int64} {f : Nat} {y : Nat → Int64} (hM : MS K A 224) (h5 : ¬ I 224 11 = 5) (h4 : A 224 4 = some rb) (hb : 236 ≤ rb) (hB : BS K A rb) (hC : RBC K I J A rb B) (hN : NmR I J rb N) (hk : okB B) (hnl : bnl B < 8) (hN1 : N.1 < 16) (hy : ∀ k, k < 12 → rv J 224 0 k = y k) (hf : f < 4)
    (q : ∀ I' J', (∀ x, (x < rb ∨ rb + 12 ≤ x) → I' x = I x ∧ J' x = J x) → RBC K I' J' A rb (addLt B f y) → NmR I' J' rb (addN N v 2 (bnl B)) → Q () (K, I', J', A)) : wp (f_X13_readLet_j122 (some 224) v (zn f) (zn 0)) Q (K, I, J, A) := by
  have hB' := hB
  obtain ⟨b0, ⟨a4, a5, a6, a7, a8, a9, a10, a11, a12, a13, a14⟩, ⟨k1, k2, k3, k4, k5, k6, k7, k8, k9, k10, k11⟩, hb64⟩ := hB'
  have hM' := hM
  obtain ⟨m0, ⟨c5, c6, c7, c21, c22, c23, c24, c25, c26, c27⟩, ⟨d1, d2, d3, d4, d5, d6, d7, d8, d9, d10⟩, hm64⟩ := hM'
  unfold f_X13_readLet_j122 f_X13_readLet_l134
  refine b_getI hM.1 (wp_ifp h5 ?_)
  refine for1 (N := 12) (fun i I' J' => I' = I ∧ (∀ x, x ≠ rb + 8 → J' x = J x) ∧ (∀ j, (j < bnl B * 12 ∨ bnl B * 12 + i ≤ j) → J' (rb + 8) j = J (rb + 8) j) ∧ ∀ j, j < i → J' (rb + 8) (bnl B * 12 + j) = y j) ?_ ?_ (k := 0) (by omega) (by unfold fuel; omega) ⟨rfl, fun _ _ => rfl, fun _ _ => rfl, fun j hj => absurd hj (Nat.not_lt_zero j)⟩
  · rintro i I' J' R' hi ⟨rfl, z1, z2, z3⟩ hR
    unfold f_X13_readLet_b134
    refine wp_ifn (ge_f (b := 12) (by omega)) (b_getA hM.1 h4 (b_getA b0 a11 (b_getA hM.1 h4 (b_getIv b0 hC.1.2.2 (b_getA hM.1 c5 ?_)))))
    rw [r12]
    refine b_ldJ d1 (by omega) (by omega) ?_
    rw [show ((12 : Int32) * zn (bnl B)) + zn i = zn (bnl B * 12 + i) from by rw [show (12 : Int32) = zn 12 from rfl, zn_mul, zn_add, Nat.mul_comm]]
    refine b_stJ k8 (by omega) (by omega) (by omega) (hR _ _ ⟨rfl, fun x hx => by rw [st2_nb hx]; exact z1 x hx, fun j hj => by rw [st2_nk (by omega)]; exact z2 j (by omega), fun j hj => ?_⟩)
    by_cases hij : j = i
    · subst hij
      rw [st2_at, z1 _ (by omega)]
      exact hy j hi
    · rw [st2_nk (by omega)]; exact z3 j (by omega)
  · rintro I' J1 R' ⟨rfl, z1, z2, z3⟩
    unfold f_X13_readLet_b134
    refine wp_ifp (ge_t (b := 12) (by omega)) (b_getA hM.1 h4 (b_getA b0 a10 (b_getA hM.1 h4 (b_getIv b0 hC.1.2.2 (b_stI k7 (by omega) (by omega) (by omega) (b_getA hM.1 h4 (b_getIv b0 ((st2_na (by omega)).trans hC.1.2.2) (b_ck hM.1 ?_))))))))
    have hN2 : NmR (st2 I' (rb + 7) (bnl B) (zn f)) J1 rb N := ⟨by rw [st2_nb (by omega)]; exact hN.1, fun k hk => ⟨by rw [z1 _ (by omega)]; exact (hN.2 k hk).1, by rw [st2_nb (by omega)]; exact (hN.2 k hk).2.1, by rw [st2_nb (by omega)]; exact (hN.2 k hk).2.2⟩⟩
    refine wp_bd (t_names (s := 2) (v := v) hM h4 hB hN2 hN1 (fun I3 J3 f1 f2 f3 hN3 => b_getA hM.1 h4 (b_getIv b0 ((f2 2 (by decide)).trans ((st2_na (by omega)).trans hC.1.2.2)) (b_putI b0 (by omega) (wp_rt ?_)))))
    rw [zn_succ]
    have eI : ∀ x, x ≠ rb → x ≠ rb + 10 → x ≠ rb + 11 → x ≠ rb + 7 → st2 I3 rb 2 (zn (bnl B + 1)) x = I' x := fun x w0 w1 w2 w3 => by rw [st2_nb w0, f1 x w0 w1 w2, st2_nb w3]
    have eJ : ∀ x, x ≠ rb + 9 → x ≠ rb + 8 → J3 x = J x := fun x w1 w2 => by rw [f3 x w1, z1 x w2]
    refine q _ _ (fun x hx => ⟨eI x (by omega) (by omega) (by omega) (by omega), eJ x (by omega) (by omega)⟩) (hC.addL hk hB hb hnl ?_ ?_ st2_at (fun x _ w0 w1 w2 w3 => eI x w0 w2 w3 w1) (fun x _ w1 w2 => eJ x w2 w1) (fun l hl => ?_) ?_ (fun j hj => ?_) (fun i hi => ?_)) ⟨?_, fun k hk => ?_⟩
    · rw [st2_nk (by decide), f2 0 (by decide), st2_nb (by omega)]
    · rw [st2_nk (by decide), f2 1 (by decide), st2_nb (by omega)]
    · rw [st2_nb (by omega), f1 _ (by omega) (by omega) (by omega), st2_nk (by omega)]
    · rw [st2_nb (by omega), f1 _ (by omega) (by omega) (by omega), st2_at]
    · rw [f3 _ (by omega)]; exact z2 j (Or.inl hj)
    · rw [f3 _ (by omega)]; exact z3 i hi
    · rw [st2_nk (by decide)]; exact hN3.1
    · obtain ⟨y1, y2, y3⟩ := hN3.2 k hk
      exact ⟨y1, by rw [st2_nb (by omega)]; exact y2, by rw [st2_nb (by omega)]; exact y3⟩
end
