/-! ===== a line; the whole text: the class ===== -/
def endT (b : Nat → Nat) (n t : Nat) : Bool := kd' kwC b n t == 0 || isG b n t 59
def fin1 (b : Nat → Nat) (n : Nat) (r : SR) : SR := match r with
  | Sum.inl e => Sum.inl e
  | Sum.inr q => if endT b n q.2.2 = true then Sum.inr q else Sum.inl (1, q.2.2)
def sLet (b : Nat → Nat) (n : Nat) (B : BKD) (N : NMD) (t : Nat) : SR := match sLetC b n B N t with
  | Sum.inl e => Sum.inl e
  | Sum.inr q => if endT b n q.2.2.1 = true then (if q.2.2.2 = true then Sum.inl (7, t + 1) else Sum.inr (q.1, q.2.1, q.2.2.1)) else Sum.inl (1, q.2.2.1)
def sLine (b : Nat → Nat) (n : Nat) (B : BKD) (N : NMD) (t : Nat) : SR :=
  if isW b n t 0 = true then fin1 b n (sFld b n B N t) else if isW b n t 1 = true then fin1 b n (sEqu b n B N t) else if isW b n t 2 = true then sLet b n B N t else Sum.inl (1, t)
def sBk (b : Nat → Nat) (n : Nat) : Nat → BKD → NMD → Nat → (Nat × Nat) ⊕ (BKD × NMD)
  | 0, _, _, t => Sum.inl (1, t)
  | k + 1, B, N, t => match sLine b n B N t with
    | Sum.inl e => Sum.inl e
    | Sum.inr q => if kd' kwC b n q.2.2 = 0 then (if bnf q.1 = 0 then Sum.inl (6, q.2.2) else Sum.inr (q.1, q.2.1)) else sBk b n k q.1 q.2.1 (q.2.2 + 1)
section
variable {β : Type} {kw : Nat → Int64} {K : List (Nat × Nat)} {I I' : Nat → Nat → Int32} {J J' : Nat → Nat → Int64} {A : Nat → Nat → Option Nat} {w : WD}
variable {b : Nat → Nat} {n T t sb m : Nat} {B : BKD} {N : NMD} {A' : Nat → Nat → Option Nat}
theorem x_j102 {Q : Int32 → Hp → Prop} {H : Bool} (hk : kk K 65 = (0, 3)) (h13 : I 65 13 = b01 H) (q0 : H = true → Q 0 (K, st2 I 65 11 (zn 7), J, A)) (q1 : H = false → Q 1 (K, I, J, A)) : wp (f_X3_readLine_j102 (some 65)) Q (K, I, J, A) := by
  unfold f_X3_readLine_j102
  refine b_getIv hk h13 ?_
  cases hH : H with
  | true => exact wp_ifn (by decide) (b_ck hk (b_eq (t_blame (k := 7) hk) (wp_ifp rfl (wp_rt (q0 hH)))))
  | false => exact wp_ifp rfl (wp_rt (q1 hH))
theorem x_j68 {Q : Int32 → Hp → Prop} {H : Bool} (hP : PS K A sb) (cT : CT I J kwC b n T t) (h13 : I 65 13 = b01 H) (qn : endT b n t = false → Q 0 (K, st2 I 65 11 (zn 1), J, A)) (q0 : endT b n t = true → H = true → Q 0 (K, st2 I 65 11 (zn 7), J, A)) (q1 : endT b n t = true → H = false → Q 1 (K, I, J, A)) : wp (f_X3_readLine_j68 (some 65) 1) Q (K, I, J, A) := by
  obtain ⟨hk, ⟨h0, h1, h2, h3, h4, h5⟩, hT, _⟩ := hP
  unfold f_X3_readLine_j68
  unfold endT at qn q0 q1
  refine wp_ifp (by decide) (b_getA hk h0 (b_ck hT.1 (b_eq (t_atEnd hT cT) ?_)))
  cases hz : kd' kwC b n t == 0 with
  | true =>
    rw [hz, Bool.true_or] at q0 q1
    exact wp_ifp (by decide) (x_j102 hk h13 (q0 rfl) (q1 rfl))
  | false =>
    rw [hz, Bool.false_or] at qn q0 q1
    refine wp_ifn (by decide) (b_getA hk h0 (b_ck hT.1 (b_eq (t_atSign (c := 59) hT cT) ?_)))
    cases hg : isG b n t 59 with
    | true => exact wp_ifp (by decide) (x_j102 hk h13 (q0 hg) (q1 hg))
    | false => exact wp_ifn (by decide) (e_blame (k := 1) hk (qn hg))
theorem t_cLine {Q : Int32 → Hp → Prop} (hS : CSt K I A sb) (hC : CRd I J sb b n T B N t) (hNB : okNB B N) (ht : t ≤ 900)
    (qe : ∀ k s I' J' A', sLine b n B N t = Sum.inl (k, s) → 1 ≤ k ∧ s < 1000 → CFr sb I J I' J' → (∀ x j, (x ≠ 65 ∨ j ≠ 6) → A' x j = A x j) → PS K A' sb → I' 65 11 = zn k → (k ≠ 7 → k < 7 ∧ CT I' J' kwC b n T s) → (k = 7 → I' 65 12 = zn (ps b n s)) → Q 0 (K, I', J', A'))
    (qs : ∀ B' N' t' I' J' A', sLine b n B N t = Sum.inr (B', N', t') → t < t' ∧ t' < 1000 → CFr sb I J I' J' → (∀ x j, (x ≠ 65 ∨ j ≠ 6) → A' x j = A x j) → CRd I' J' sb b n T B' N' t' → okNB B' N' → PS K A' sb → Q 1 (K, I', J', A')) : wp (f_X3_readLine (some 65)) Q (K, I, J, A) := by
  obtain ⟨hP, hO, hSK, hsb⟩ := hS
  have hP' := hP
  obtain ⟨hk, ⟨h0, h1, h2, h3, h4, h5⟩, hT, hR, d1, d2, d3, hB⟩ := hP'
  have hC' := hC
  obtain ⟨cT, cB, cN, okb, okn, hsum, h11⟩ := hC'
  have hn := cT.1.1
  unfold f_X3_readLine
  refine b_putZ hk (by decide) (by decide) ?_
  have cT0 := cT.o (x := 65) (j := 13) (v := 0) (by decide)
  have hO0 : OT K (st2 I 65 13 0) := hO.ga Gr.rfl' (st2_nb (by decide)) (st2_nb (by decide))
  have hS0 : CSt K (st2 I 65 13 0) A sb := ⟨hP, hO0, hSK, hsb⟩
  have hC0 : CRd (st2 I 65 13 0) J sb b n T B N t := ⟨cT0, cB.lo okb (fun x a _ => ⟨st2_nb (by omega), rfl⟩), cN.lo (fun x a _ => ⟨st2_nb (by omega), rfl⟩), okb, okn, hsum, by rw [st2_nk (by decide)]; exact h11⟩
  have F0 : CFr sb I J (st2 I 65 13 0) J := CFr.i
  have hPA : ∀ A' : Nat → Nat → Option Nat, (∀ x j, (x ≠ 65 ∨ j ≠ 6) → A' x j = A x j) → PS K A' sb := by
    intro A' hA
    have e : A' = st2 A 65 6 (A' 65 6) := by
      funext x j
      rw [st2_app]
      by_cases h : x = 65 ∧ j = 6
      · rw [if_pos h, h.1, h.2]
      · rw [if_neg h]; exact hA x j (by omega)
    rw [e]
    exact hP.a6 hsb
  unfold sLine at qe qs
  refine b_getA hk h0 (b_ck hT.1 (b_eq (t_atWord (i := 0) hT cT0) ?_))
  by_cases c0 : isW b n t 0 = true
  · rw [if_pos c0] at qe qs
    rw [c0]
    refine wp_ifn (by decide) (b_ck hk (wp_bd (t_cField hS0 hC0 (by have := isW_k c0; omega) (fun k s I1 J1 g F1 e1 c1 => ?_) (fun B1 N1 t1 I1 J1 g F1 C1 z13 => ?_))))
    · have := sFld_flt ht g
      unfold f_X3_readLine_j68
      exact wp_ifn (by decide) (wp_rt (qe k s I1 J1 A (by rw [g]; rfl) ⟨this.1, this.2.2⟩ (F0.trans F1) (fun _ _ _ => rfl) hP e1 (fun _ => ⟨by omega, c1⟩) (fun q => by omega)))
    · obtain ⟨okNB1, et⟩ := sFld_ok g hNB
      rw [g] at qe qs
      have h13 : I1 65 13 = b01 false := by rw [z13, st2_at]; rfl
      refine x_j68 (H := false) hP C1.1 h13 (fun hE => ?_) (fun _ q => absurd q (by decide)) (fun hE _ => ?_)
      · refine qe 1 t1 _ _ A ?_ (by omega) (F0.trans (F1.trans CFr.i)) (fun _ _ _ => rfl) hP st2_at (fun _ => ⟨by omega, C1.1.o (by decide)⟩) (fun q => absurd q (by decide))
        show (if endT b n t1 = true then (Sum.inr (B1, N1, t1) : SR) else Sum.inl (1, t1)) = _
        rw [hE]; rfl
      · refine qs B1 N1 t1 _ _ A ?_ (by omega) (F0.trans F1) (fun _ _ _ => rfl) C1 okNB1 hP
        show (if endT b n t1 = true then (Sum.inr (B1, N1, t1) : SR) else Sum.inl (1, t1)) = _
        rw [hE]; rfl
  rw [if_neg c0] at qe qs
  rw [Bool.eq_false_iff.mpr c0]
  refine wp_ifp rfl (b_getA hk h0 (b_ck hT.1 (b_eq (t_atWord (i := 1) hT cT0) ?_)))
  by_cases c1 : isW b n t 1 = true
  · rw [if_pos c1] at qe qs
    rw [c1]
    refine wp_ifn (by decide) (b_ck hk (wp_bd (t_cEqu hS0 hC0 hNB (by have := isW_k c1; omega) (fun k s I1 J1 A1 g F1 hA1 e1 c1 => ?_) (fun B1 N1 t1 I1 J1 A1 g F1 hA1 C1 z13 hP1 okNB1 => ?_))))
    · have := sEqu_flt ht g
      unfold f_X3_readLine_j68
      exact wp_ifn (by decide) (wp_rt (qe k s I1 J1 A1 (by rw [g]; rfl) ⟨this.1, this.2.2⟩ (F0.trans F1) hA1 (hPA A1 hA1) e1 (fun _ => ⟨by omega, c1⟩) (fun q => by omega)))
    · have et := sEqu_t g
      rw [g] at qe qs
      have h13 : I1 65 13 = b01 false := by rw [z13, st2_at]; rfl
      have hs1 : t1 < 1000 := by omega
      refine x_j68 (H := false) hP1 C1.1 h13 (fun hE => ?_) (fun _ q => absurd q (by decide)) (fun hE _ => ?_)
      · refine qe 1 t1 _ _ A1 ?_ ⟨by omega, hs1⟩ (F0.trans (F1.trans CFr.i)) hA1 hP1 st2_at (fun _ => ⟨by omega, C1.1.o (by decide)⟩) (fun q => absurd q (by decide))
        show (if endT b n t1 = true then (Sum.inr (B1, N1, t1) : SR) else Sum.inl (1, t1)) = _
        rw [hE]; rfl
      · refine qs B1 N1 t1 _ _ A1 ?_ (by omega) (F0.trans F1) hA1 C1 okNB1 hP1
        show (if endT b n t1 = true then (Sum.inr (B1, N1, t1) : SR) else Sum.inl (1, t1)) = _
        rw [hE]; rfl
  rw [if_neg c1] at qe qs
  rw [Bool.eq_false_iff.mpr c1]
  refine wp_ifp rfl (b_getA hk h0 (b_ck hT.1 (b_eq (t_atWord (i := 2) hT cT0) ?_)))
  by_cases c2 : isW b n t 2 = true
  · rw [if_pos c2] at qe qs
    rw [c2]
    unfold sLet at qe qs
    refine wp_ifn (by decide) (b_ck hk (wp_bd (t_cLet hS0 hC0 hNB (by have := isW_k c2; omega) st2_at (fun k s I1 J1 A1 g F1 hA1 e1 c1 => ?_) (fun B1 N1 t1 H1 I1 J1 A1 g F1 hA1 C1 z13 z12 hC1 hP1 => ?_))))
    · have := sLetC_flt hn okb hNB ht g
      unfold f_X3_readLine_j68
      exact wp_ifn (by decide) (wp_rt (qe k s I1 J1 A1 (by rw [g]) ⟨this.1, this.2.2⟩ (F0.trans F1) hA1 (hPA A1 hA1) e1 (fun _ => ⟨by omega, c1⟩) (fun q => by omega)))
    · have et := sLetC_t hn okb hNB g
      rw [g] at qe qs
      dsimp only at qe qs
      refine x_j68 hP1 C1 z13 (fun hE => ?_) (fun hE hH => ?_) (fun hE hH => ?_)
      · rw [hE, if_neg (by decide)] at qe
        exact qe 1 t1 _ _ A1 rfl (by omega) (F0.trans (F1.trans CFr.i)) hA1 hP1 st2_at (fun _ => ⟨by omega, C1.o (by decide)⟩) (fun q => absurd q (by decide))
      · rw [hE, if_pos rfl, if_pos hH] at qe
        exact qe 7 (t + 1) _ _ A1 rfl (by omega) (F0.trans (F1.trans CFr.i)) hA1 hP1 st2_at (fun q => absurd rfl q) (fun _ => by rw [st2_nk (by decide)]; exact z12)
      · rw [hE, if_pos rfl, hH, if_neg (by decide)] at qs
        exact qs B1 N1 t1 _ _ A1 rfl ⟨et.1, by omega⟩ (F0.trans F1) hA1 (hC1 hH).1 (hC1 hH).2 hP1
  rw [if_neg c2] at qe
  rw [Bool.eq_false_iff.mpr c2]
  exact wp_ifp rfl (e_blame (k := 1) hk (qe 1 t _ _ A rfl (by omega) (F0.trans CFr.i) (fun _ _ _ => rfl) hP st2_at (fun _ => ⟨by omega, cT0.o (by decide)⟩) (fun q => absurd q (by decide))))
end
