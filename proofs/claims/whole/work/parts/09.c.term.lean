/-! ===== a term of an equation: the class ===== -/
def inR (b : Nat → Nat) (n t lo hi : Nat) : Bool := kd' kwC b n t == 2 && (decide (lo ≤ whN b n t) && decide (whN b n t ≤ hi))
def sTrm (b : Nat → Nat) (n p T t : Nat) : (Nat × Nat) ⊕ (Nat × Nat) :=
  if inR b n t 1 (p - 1) = true ∧ T = 3 then Sum.inl (5, t)
  else if kd' kwC b n t ≠ 2 then Sum.inl (1, t)
  else if inR b n t 1 (p - 1) = false then Sum.inl (4, t)
  else if isW b n (t + 1) 6 = false then Sum.inl (1, t + 1)
  else if kd' kwC b n (t + 2) ≠ 2 then Sum.inl (1, t + 2)
  else if inR b n (t + 2) 1 12 = false then Sum.inl (4, t + 2)
  else Sum.inr (whN b n t, whN b n (t + 2))
section
variable {β : Type} {kw : Nat → Int64} {K : List (Nat × Nat)} {I I' : Nat → Nat → Int32} {J J' : Nat → Nat → Int64} {A : Nat → Nat → Option Nat} {w : WD}
variable {b : Nat → Nat} {n T t sb m : Nat}
theorem t_cTerm {Q : Int32 → Hp → Prop} {e p : Nat} {c u : Nat → Nat} (hS : PS K A sb) (hE : ES K A e) (hU : EU I e p m c u) (hm : m ≤ 3) (hp : 3 ≤ p ∧ p ≤ 199) (he : 104 ≤ e) (hC : CT I J kwC b n T t)
    (qe : ∀ k s I' J', sTrm b n p m t = Sum.inl (k, s) → (∀ x, x ≠ 65 → x ≠ 66 → I' x = I x ∧ J' x = J x) → (∀ j, j ≠ 9 → j ≠ 11 → I' 65 j = I 65 j) → J' 65 = J 65 → I' 65 11 = zn k → CT I' J' kwC b n T s → Q 0 (K, I', J', A))
    (qs : ∀ x y I' J', sTrm b n p m t = Sum.inr (x, y) → (∀ z, z ≠ 65 → z ≠ 66 → z ≠ e → z ≠ e + 1 → z ≠ e + 2 → I' z = I z) → (∀ z, z ≠ 66 → J' z = J z) → (∀ j, j ≠ 9 → I' 65 j = I 65 j) → I' 65 9 = zn y → y < 1000 → EU I' e p (m + 1) (addT c m x) (addT u m y) → CT I' J' kwC b n T (t + 3) → Q 1 (K, I', J', A)) : wp (f_X3_readTerm (some 65) (some e)) Q (K, I, J, A) := by
  have hS' := hS
  obtain ⟨hk, ⟨h0, h1, h2, h3, h4, h5⟩, hT, hR, d1, d2, d3, hBs⟩ := hS'
  unfold f_X3_readTerm f_X1_prime
  unfold sTrm at qe qs
  refine b_getA hk h0 (b_ck hE.1 (b_assoc (b_getIv hE.1 hU.1 (b_rt (b_ck hT.1 ?_)))))
  rw [zn_pred1 (by omega)]
  have hat : f_X9_atWholeWithin (some 66) (zn 1) (zn (p - 1)) (K, I, J, A) = some (b01 (inR b n t 1 (p - 1)), (K, I, J, A)) := t_atWholeWithin hT hC (by omega) (by omega)
  refine b_eq hat ?_
  have main : ¬ (inR b n t 1 (p - 1) = true ∧ m = 3) → wp (f_X3_readTerm_j32 (some 65) (some e) (b01 (inR b n t 1 (p - 1)))) Q (K, I, J, A) := by
    intro hno
    rw [if_neg hno] at qe qs
    unfold f_X3_readTerm_j32
    refine b_ck hk (wp_bd (t_takeWhole hk h0 hT hC (fun g1 g2 I1 J1 f1 c1 => ?_) (fun g1 g2 => ?_) (fun g1 => ?_)))
    rotate_left
    · rw [if_neg (fun q => q g1), if_pos g2] at qe
      exact wp_ifn (by decide) (wp_rt (qe 4 t _ _ rfl (fun x a b => ⟨st2_nb a, rfl⟩) (fun j a b => st2_nk b) rfl st2_at (hC.o (by decide))))
    · rw [if_pos g1] at qe
      exact wp_ifn (by decide) (wp_rt (qe 1 t _ _ rfl (fun x a b => ⟨st2_nb a, rfl⟩) (fun j a b => st2_nk b) rfl st2_at (hC.o (by decide))))
    rw [if_neg (fun q => q g1), if_neg (by rw [g2]; decide)] at qe qs
    have i9 : I1 65 9 = zn (whN b n t) := by rw [f1.1 65 (by decide), st2_at]
    have e1 : ∀ x, x ≠ 65 → x ≠ 66 → I1 x = I x ∧ J1 x = J x := fun x a b => ⟨by rw [f1.1 x b, st2_nb a], f1.2.2 x b⟩
    have e1' : ∀ j, j ≠ 9 → I1 65 j = I 65 j := fun j a => by rw [f1.1 65 (by decide), st2_nk a]
    have e1j : J1 65 = J 65 := f1.2.2 65 (by decide)
    refine wp_ifp (by decide) (b_getIv hk i9 (b_ck hk (wp_bd (t_takeWord (i := 6) hk h0 hT c1 (fun g3 I2 J2 f2 c2 => ?_) (fun g3 => ?_)))))
    rotate_left
    · rw [if_pos g3] at qe
      exact wp_ifp rfl (wp_rt (qe 1 (t + 1) _ _ rfl (fun x a b => ⟨by rw [st2_nb a]; exact (e1 x a b).1, (e1 x a b).2⟩) (fun j a b => by rw [st2_nk b]; exact e1' j a) e1j st2_at (c1.o (by decide))))
    rw [if_neg (by rw [g3]; decide)] at qe qs
    have e2 : ∀ x, x ≠ 65 → x ≠ 66 → I2 x = I x ∧ J2 x = J x := fun x a b => ⟨by rw [f2.1 x b]; exact (e1 x a b).1, by rw [f2.2.2 x b]; exact (e1 x a b).2⟩
    have e2' : ∀ j, j ≠ 9 → I2 65 j = I 65 j := fun j a => by rw [f2.1 65 (by decide)]; exact e1' j a
    have e2j : J2 65 = J 65 := by rw [f2.2.2 65 (by decide)]; exact e1j
    refine wp_ifn (by decide) (b_getA hk h0 (b_ck hT.1 (b_eq (t_atWholeWithin (lo := 1) (hi := 12) hT c2 (by omega) (by omega)) (b_ck hk (wp_bd (t_takeWhole hk h0 hT c2 (fun g4 g5 I3 J3 f3 c3 => ?_) (fun g4 g5 => ?_) (fun g4 => ?_)))))))
    rotate_left
    · rw [if_neg (fun q => q g4), if_pos (show inR b n (t + 2) 1 12 = false from g5)] at qe
      exact wp_ifn (by decide) (wp_rt (qe 4 (t + 2) _ _ rfl (fun x a b => ⟨by rw [st2_nb a]; exact (e2 x a b).1, (e2 x a b).2⟩) (fun j a b => by rw [st2_nk b]; exact e2' j a) e2j st2_at (c2.o (by decide))))
    · rw [if_pos g4] at qe
      exact wp_ifn (by decide) (wp_rt (qe 1 (t + 2) _ _ rfl (fun x a b => ⟨by rw [st2_nb a]; exact (e2 x a b).1, (e2 x a b).2⟩) (fun j a b => by rw [st2_nk b]; exact e2' j a) e2j st2_at (c2.o (by decide))))
    rw [if_neg (fun q => q g4), if_neg (by rw [show inR b n (t + 2) 1 12 = true from g5]; decide)] at qs
    have j9 : I3 65 9 = zn (whN b n (t + 2)) := by rw [f3.1 65 (by decide), st2_at]
    have e3 : ∀ x, x ≠ 65 → x ≠ 66 → I3 x = I x ∧ J3 x = J x := fun x a b => ⟨by rw [f3.1 x b, st2_nb a]; exact (e2 x a b).1, by rw [f3.2.2 x b]; exact (e2 x a b).2⟩
    have e3' : ∀ j, j ≠ 9 → I3 65 j = I 65 j := fun j a => by rw [f3.1 65 (by decide), st2_nk a]; exact e2' j a
    have hm3 : m < 3 := by
      have : ¬ m = 3 := fun q => hno ⟨g2, q⟩
      omega
    have hU3 : EU I3 e p m c u := ⟨by rw [(e3 e (by omega) (by omega)).1]; exact hU.1, by rw [(e3 e (by omega) (by omega)).1]; exact hU.2.1, fun s hs => ⟨by rw [(e3 (e + 1) (by omega) (by omega)).1]; exact (hU.2.2 s hs).1, by rw [(e3 (e + 2) (by omega) (by omega)).1]; exact (hU.2.2 s hs).2⟩⟩
    have hy : whN b n (t + 2) ≤ 999 := (wh_ok g4).2
    refine wp_ifp (by decide) (b_getIv hk j9 (b_ck hE.1 (wp_bd (t_eqAppend hE hU3 hm3 (fun I4 f4 hU4 => wp_rt (qs _ _ I4 J3 rfl (fun z a b c d e' => by rw [f4 z c d e']; exact (e3 z a b).1) (fun z b => ?_) (fun j a => ?_) ?_ (by omega) hU4 ?_))))))
    · rw [f3.2.2 z b, f2.2.2 z b, f1.2.2 z b]
    · rw [f4 65 (by omega) (by omega) (by omega)]; exact e3' j a
    · rw [f4 65 (by omega) (by omega) (by omega)]; exact j9
    · obtain ⟨⟨u1, u2, u3, u4⟩, ⟨v1, v2, v3⟩, z1, z2, z3, z4⟩ := c3
      have g : ∀ x, (x = 66 ∨ x = 67 ∨ x = 68 ∨ x = 69 ∨ x = 70 ∨ x = 71) → I4 x = I3 x := fun x hx => f4 x (by omega) (by omega) (by omega)
      exact ⟨⟨u1, by rw [g 66 (by omega)]; exact u2, fun i hi => ⟨(u3 i hi).1, by rw [g 67 (by omega)]; exact (u3 i hi).2⟩, u4⟩, ⟨v1, by rw [g 66 (by omega)]; exact v2, fun s hs => ⟨(v3 s hs).1, by rw [g 69 (by omega)]; exact (v3 s hs).2.1, (v3 s hs).2.2.1, by rw [g 71 (by omega)]; exact (v3 s hs).2.2.2⟩⟩, z1, by rw [g 66 (by omega)]; exact z2, by rw [g 66 (by omega)]; exact z3, z4⟩
  cases hb : inR b n t 1 (p - 1) with
  | false =>
    rw [hb] at main
    exact wp_ifp rfl (main (fun q => absurd q.1 (by decide)))
  | true =>
    rw [hb] at main qe
    refine wp_ifn (by decide) (b_ck hE.1 (b_eq (t_isFull hE hU hm) ?_))
    by_cases h3 : m = 3
    · rw [if_pos ⟨rfl, h3⟩] at qe
      rw [h3]
      exact wp_ifn (by decide) (e_blame (k := 5) hk (qe 5 t _ _ rfl (fun x a b => ⟨st2_nb a, rfl⟩) (fun j a b => st2_nk b) rfl st2_at (hC.o (by decide))))
    · rw [beq_eq_false_iff_ne.mpr h3]
      exact wp_ifp rfl (main (fun q => h3 q.2))
end
