/-! ===== in which field ===== -/
/-- names lead to what is there -/
def okNB (B : BKD) (N : NMD) : Prop := ∀ k, k < N.1 → ((N.2 k).2.1 = 0 → (N.2 k).2.2 < bnf B) ∧ ((N.2 k).2.1 = 1 → (N.2 k).2.2 < bne B) ∧ ((N.2 k).2.1 = 2 → (N.2 k).2.2 < bnl B)
def sInF (b : Nat → Nat) (n : Nat) (N : NMD) (t : Nat) : (Nat × Nat) ⊕ (Nat × Nat) :=
  if isW b n t 4 = false then Sum.inl (1, t)
  else if kd' kwC b n (t + 1) ≠ 5 then Sum.inl (1, t + 1)
  else match fnN N (vl kwC b n (t + 1)) 0 with
    | none => Sum.inl (2, t + 1)
    | some f => Sum.inr (f, t + 2)
section
variable {β : Type} {kw : Nat → Int64} {K : List (Nat × Nat)} {I I' : Nat → Nat → Int32} {J J' : Nat → Nat → Int64} {A : Nat → Nat → Option Nat} {w : WD}
variable {b : Nat → Nat} {n T t rb sb : Nat} {B : BKD} {N : NMD}
theorem fnN_ok {v : Int64} {f : Nat} (h : okNB B N) (hf : fnN N v 0 = some f) : f < bnf B := by
  unfold fnN at hf
  cases hr : rk N v with
  | none => rw [hr] at hf; exact absurd hf (by simp)
  | some k =>
    rw [hr] at hf
    dsimp only at hf
    by_cases hs : (N.2 k).2.1 = 0
    · rw [if_pos hs] at hf
      have : (N.2 k).2.2 = f := by simpa using hf
      rw [← this]
      exact (h k (rk_lt hr)).1 hs
    · rw [if_neg hs] at hf; exact absurd hf (by simp)
theorem okNB_fld {v : Int64} {p m : Nat} (h : okNB B N) : okNB (addFl B p m) (addN N v 0 (bnf B)) := by
  intro k hk
  have hk' : k < N.1 + 1 := hk
  show (((if k = N.1 then (v, 0, bnf B) else N.2 k) : Int64 × Nat × Nat).2.1 = 0 → ((if k = N.1 then (v, 0, bnf B) else N.2 k) : Int64 × Nat × Nat).2.2 < bnf B + 1) ∧ (((if k = N.1 then (v, 0, bnf B) else N.2 k) : Int64 × Nat × Nat).2.1 = 1 → ((if k = N.1 then (v, 0, bnf B) else N.2 k) : Int64 × Nat × Nat).2.2 < bne B) ∧ (((if k = N.1 then (v, 0, bnf B) else N.2 k) : Int64 × Nat × Nat).2.1 = 2 → ((if k = N.1 then (v, 0, bnf B) else N.2 k) : Int64 × Nat × Nat).2.2 < bnl B)
  by_cases h1 : k = N.1
  · rw [if_pos h1]
    exact ⟨fun _ => Nat.lt_succ_self _, fun q => absurd q (by show ¬ (0 : Nat) = 1; decide), fun q => absurd q (by show ¬ (0 : Nat) = 2; decide)⟩
  · rw [if_neg h1]
    obtain ⟨x1, x2, x3⟩ := h k (by omega)
    exact ⟨fun q => Nat.lt_succ_of_lt (x1 q), x2, x3⟩
theorem t_takeInField {Q : Int32 → Hp → Prop} (hS : PS K A sb) (hB : CBC I J sb B) (hN : NmC I J sb N) (hk : okB B) (hO : okN N) (hNB : okNB B N) (hsb : 104 ≤ sb) (hC : CT I J kwC b n T t)
    (qe : ∀ k s I' J', sInF b n N t = Sum.inl (k, s) → (∀ x, x ≠ 65 → x ≠ 66 → I' x = I x ∧ J' x = J x) → (∀ j, j ≠ 7 → j ≠ 11 → I' 65 j = I 65 j) → J' 65 = J 65 → I' 65 11 = zn k → CT I' J' kwC b n T s → Q 0 (K, I', J', A))
    (qs : ∀ f I' J', sInF b n N t = Sum.inr (f, t + 2) → (∀ x, x ≠ 65 → x ≠ 66 → I' x = I x ∧ J' x = J x) → (∀ j, j ≠ 7 → I' 65 j = I 65 j) → J' 65 = J 65 → I' 65 7 = zn f → CT I' J' kwC b n T (t + 2) → Q 1 (K, I', J', st2 A 65 6 (some (sb + 16 + 4 * f)))) : wp (f_X3_takeInField (some 65)) Q (K, I, J, A) := by
  have hS' := hS
  obtain ⟨hk65, ⟨h0, h1, h2, h3, h4, h5⟩, hT, hR, d1, d2, d3, hBs⟩ := hS'
  unfold f_X3_takeInField
  unfold sInF at qe qs
  refine b_ck hk65 (wp_bd (t_takeWord (i := 4) hk65 h0 hT hC (fun g1 I1 J1 f1 c1 => ?_) (fun g1 => ?_)))
  rotate_left
  · rw [if_pos g1] at qe
    exact wp_ifn (by decide) (wp_rt (qe 1 t _ _ rfl (fun x a b => ⟨st2_nb a, rfl⟩) (fun j a b => st2_nk b) rfl st2_at (hC.o (by decide))))
  rw [if_neg (by rw [g1]; decide)] at qe qs
  refine wp_ifp (by decide) (b_getA hk65 h0 (b_ck hT.1 (b_eq (t_atName hT c1) ?_)))
  by_cases g2 : kd' kwC b n (t + 1) = 5
  · rw [if_neg (fun q => q g2)] at qe qs
    rw [g2]
    have cN1 : NmC I1 J1 sb N := hN.lo (fun x a _ => ⟨f1.1 x (by omega), f1.2.2 x (by omega)⟩)
    have cB1 : CBC I1 J1 sb B := hB.lo hk (fun x a _ => ⟨f1.1 x (by omega), f1.2.2 x (by omega)⟩)
    refine wp_ifp (by decide) (b_getA hk65 h5 (b_getA hk65 h0 (b_ck hT.1 (b_eq (t_nameNow hT c1 g2) (b_ck hBs.1 (b_eq (t_find (s := 0) hBs cN1 hO (by decide)) (b_putI hk65 (by decide) (b_getA hk65 h5 (b_getIv hk65 st2_at (b_ck hBs.1 ?_))))))))))
    have cB2 : ∀ v : Int32, CBC (st2 I1 65 7 v) J1 sb B := fun v => cB1.lo hk (fun x a _ => ⟨st2_nb (by omega), rfl⟩)
    cases hf : fnN N (vl kwC b n (t + 1)) 0 with
    | none =>
      rw [hf] at qe
      show wp (mBd (f_X0_fieldAt (some sb) (-1)) _) Q (K, st2 I1 65 7 (-1), J1, A)
      rw [z_m1]
      refine b_eq (t_fieldAt hBs (cB2 _) hk (by omega)) ?_
      rw [if_neg (show ¬ (0 ≤ (-1 : Int) ∧ (-1 : Int) < (bnf B : Int)) by omega)]
      refine wp_ifp rfl (e_blame (k := 2) hk65 (qe 2 (t + 1) _ _ rfl (fun x a b => ⟨?_, ?_⟩) (fun j a b => ?_) ?_ st2_at ((c1.o (by decide)).o (by decide))))
      · rw [st2_nb a, st2_nb a]; exact f1.1 x b
      · exact f1.2.2 x b
      · rw [st2_nk b, st2_nk a, f1.1 65 (by decide)]
      · exact f1.2.2 65 (by decide)
    | some f =>
      rw [hf] at qs
      have hlt := fnN_ok hNB hf
      have hf4 := hk.1.1
      show wp (mBd (f_X0_fieldAt (some sb) (zn f)) _) Q (K, st2 I1 65 7 (zn f), J1, A)
      rw [zn_zi f]
      refine b_eq (t_fieldAt hBs (cB2 _) hk (by omega)) ?_
      rw [if_pos (show 0 ≤ (f : Int) ∧ (f : Int) < (bnf B : Int) by omega), Int.toNat_natCast]
      have hT2 : TS K (st2 A 65 6 (some (sb + 16 + 4 * f))) := hT.ga Gr.rfl' (st2_nb (by decide))
      refine wp_ifn (by simp) (b_putA hk65 (by decide) (b_getA hk65 ((st2_nk (by decide)).trans h0) (b_ck hT.1 (wp_bd (t_cstep hT2 (c1.o (by decide)) (by omega) (fun I2 J2 f2 c2 => wp_rt (qs f I2 J2 rfl (fun x a b => ⟨?_, ?_⟩) (fun j a => ?_) ?_ ?_ c2)))))))
      · rw [f2.1 x b, st2_nb a]; exact f1.1 x b
      · rw [f2.2.2 x b]; exact f1.2.2 x b
      · rw [f2.1 65 (by decide), st2_nk a, f1.1 65 (by decide)]
      · rw [f2.2.2 65 (by decide)]; exact f1.2.2 65 (by decide)
      · rw [f2.1 65 (by decide), st2_at, zn_zi]
  · rw [if_pos g2] at qe
    rw [beq_eq_false_iff_ne.mpr g2]
    refine wp_ifn (by decide) (e_blame (k := 1) hk65 (qe 1 (t + 1) _ _ rfl (fun x a b => ⟨?_, ?_⟩) (fun j a b => ?_) ?_ st2_at (c1.o (by decide))))
    · rw [st2_nb a]; exact f1.1 x b
    · exact f1.2.2 x b
    · rw [st2_nk b, f1.1 65 (by decide)]
    · exact f1.2.2 65 (by decide)
end
