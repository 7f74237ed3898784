/-! ===== the class's reading: names, a field's line ===== -/
section
variable {β : Type} {kw : Nat → Int64} {K : List (Nat × Nat)} {I I' : Nat → Nat → Int32} {J J' : Nat → Nat → Int64} {A : Nat → Nat → Option Nat} {w : WD}
variable {b : Nat → Nat} {n T t sb : Nat} {B : BKD} {N : NMD}
def addFl (B : BKD) (p m : Nat) : BKD := ((bnf B + 1, fun f => if f = bnf B then (p, m) else B.1.2 f), B.2)
/-- the class while it reads: at token t, the book and its names so far -/
def CRd (I : Nat → Nat → Int32) (J : Nat → Nat → Int64) (sb : Nat) (b : Nat → Nat) (n T : Nat) (B : BKD) (N : NMD) (t : Nat) : Prop :=
  CT I J kwC b n T t ∧ CBC I J sb B ∧ NmC I J sb N ∧ okB B ∧ okN N ∧ N.1 = bnf B + bne B + bnl B ∧ I 65 11 = 0
def CSt (K : List (Nat × Nat)) (I : Nat → Nat → Int32) (A : Nat → Nat → Option Nat) (sb : Nat) : Prop := PS K A sb ∧ OT K I ∧ SK K ∧ (sb = 104 ∨ sb = 172)
/-- what the class's reading may change -/
def crg (sb x : Nat) : Prop := x = 65 ∨ x = 66 ∨ (69 ≤ x ∧ x ≤ 103) ∨ (sb ≤ x ∧ x < sb + 52)
def CFr (sb : Nat) (I : Nat → Nat → Int32) (J : Nat → Nat → Int64) (I' : Nat → Nat → Int32) (J' : Nat → Nat → Int64) : Prop := ∀ x, ¬ crg sb x → I' x = I x ∧ J' x = J x
theorem t_takeNewName {Q : Int32 → Hp → Prop} (hS : PS K A sb) (hN : NmC I J sb N) (hO : okN N) (hC : CT I J kwC b n T t)
    (q1 : kd' kwC b n t = 5 → rk N (vl kwC b n t) = none → ∀ I' J', SF (st2 I 65 12 (zn (ps b n t))) (st2 J 65 8 (vl kwC b n t)) I' J' → CT I' J' kwC b n T (t + 1) → Q 1 (K, I', J', A)) (q3 : kd' kwC b n t = 5 → (rk N (vl kwC b n t)).isSome = true → Q 0 (K, st2 I 65 11 (zn 3), J, A)) (q0 : kd' kwC b n t ≠ 5 → Q 0 (K, st2 I 65 11 (zn 1), J, A)) : wp (f_X3_takeNewName (some 65)) Q (K, I, J, A) := by
  obtain ⟨hk, ⟨h0, h1, h2, h3, h4, h5⟩, hT, hR, d1, d2, d3, hB⟩ := hS
  unfold f_X3_takeNewName
  refine b_getA hk h0 (b_ck hT.1 (b_eq (t_atName hT hC) ?_))
  by_cases h : kd' kwC b n t = 5
  · rw [h]
    have hlt := kd_lt (kw := kwC) (b := b) (n := n) (t := t) (by omega)
    have hm := ps_mono t hlt
    have hn := hC.1.1
    refine wp_ifp (by decide) (b_getA hk h5 (b_getA hk h0 (b_ck hT.1 (b_eq (t_nameNow hT hC h) (b_ck hB.1 (b_eq (t_knows hB hN hO) ?_))))))
    cases hr : rk N (vl kwC b n t) with
    | none =>
      refine wp_ifp (by decide) (b_getA hk h0 (b_ck hT.1 (b_eq (t_nameNow hT hC h) (b_putJ hk (by decide) ?_))))
      have hC2 : CT I (st2 J 65 8 (vl kwC b n t)) kwC b n T t := hC.jj (st2_nb (by decide)) (st2_nb (by decide)) (st2_nb (by decide))
      refine b_getA hk h0 (b_ck hT.1 (b_eq (t_placeNow hT hC2 (by omega)) (b_putI hk (by decide) (b_getA hk h0 (b_ck hT.1 (wp_bd (t_cstep hT (hC2.o (by decide)) (by omega) (fun I' J' f c => wp_rt (q1 h hr I' J' f c)))))))))
    | some k => exact wp_ifn (show ¬ b01 true = 0 by decide) (e_blame (k := 3) hk (q3 h (by rw [hr]; rfl)))
  · rw [beq_eq_false_iff_ne.mpr h]
    exact wp_ifn (by decide) (e_blame (k := 1) hk (q0 h))
theorem t_tellField {Q : Unit → Hp → Prop} {p m : Nat} {v : Int64} (hb : 64 ≤ sb) (hB : CBS K A sb) (hC : CBC I J sb B) (hN : NmC I J sb N) (hk : okB B) (hnf : bnf B < 4) (hN1 : N.1 < 16) (hpm : pn p m)
    (q : ∀ I' J', (∀ x, ¬ (sb ≤ x ∧ x < sb + 52) → I' x = I x ∧ J' x = J x) → CBC I' J' sb (addFl B p m) → NmC I' J' sb (addN N v 0 (bnf B)) → Q () (K, I', J', A)) : wp (f_X0_tellField (some sb) v (zn p) (zn m)) Q (K, I, J, A) := by
  have hB' := hB
  obtain ⟨b0, ⟨a0, a1, a2, a3, a4, a5, a6⟩, ⟨k1, k2, k3, k12, k13, k14, k15⟩, hl, hf, he⟩ := hB'
  have hF := hf (bnf B) hnf
  obtain ⟨⟨c7, c8, c9⟩, cF, cE, cL⟩ := hC
  obtain ⟨⟨o1, o2⟩, ⟨o3, o4⟩, ⟨o5, o6⟩⟩ := hk
  unfold f_X0_tellField
  refine b_getIv b0 c7 (b_getA b0 a0 (b_len k1 (by decide) (wp_ifn (ge_f (by omega)) (b_getA b0 a0 (b_getIv b0 c7 (b_ldA k1 (by decide) (by omega) (by omega) ?_))))))
  rw [hF.1]
  refine wp_ifn (by simp) (b_getA b0 a0 (b_getIv b0 c7 (b_ldA k1 (by decide) (by omega) (by omega) ?_)))
  rw [hF.1]
  refine b_ck hF.2.1 (wp_bd (t_become (n := m) hF.2 hpm.1 (fun I1 f1 hC1 => ?_)))
  have e1 : ∀ x, x ≠ sb + 16 + 4 * bnf B → x ≠ sb + 16 + 4 * bnf B + 1 → x ≠ sb + 16 + 4 * bnf B + 2 → I1 x = I x := f1
  have hN' : NmC I1 J sb N := ⟨by rw [e1 sb (by omega) (by omega) (by omega)]; exact hN.1, fun k hk => ⟨(hN.2 k hk).1, by rw [e1 _ (by omega) (by omega) (by omega)]; exact (hN.2 k hk).2.1, by rw [e1 _ (by omega) (by omega) (by omega)]; exact (hN.2 k hk).2.2⟩⟩
  have c7' : I1 sb 7 = zn (bnf B) := by rw [e1 sb (by omega) (by omega) (by omega)]; exact c7
  refine b_getIv b0 c7' (b_ck b0 (wp_bd (t_tell (s := 0) hb hB hN' hN1 (fun I2 J2 g1 g2 g3 hN2 => ?_))))
  refine b_getIv b0 ((g2 7 (by decide)).trans c7') (b_putI b0 hb (wp_rt ?_))
  rw [zn_succ]
  refine q _ _ (fun x hx => ⟨?_, g3 x (by omega)⟩) ⟨⟨st2_at, ?_, ?_⟩, fun f hf' => ?_, fun i hi => ?_, fun l hl' => ⟨?_, fun i hi => ?_⟩⟩ ⟨?_, fun k hk => ?_⟩
  · rw [st2_nb (by omega), g1 x (by omega) (by omega) (by omega), e1 x (by omega) (by omega) (by omega)]
  · rw [st2_nk (by decide), g2 8 (by decide), e1 sb (by omega) (by omega) (by omega)]; exact c8
  · rw [st2_nk (by decide), g2 9 (by decide), e1 sb (by omega) (by omega) (by omega)]; exact c9
  · have hf2 : f < bnf B + 1 := hf'
    by_cases h : f = bnf B
    · subst h
      have ep : bfp (addFl B p m) (bnf B) = p := by unfold bfp addFl; simp
      have em : bfn (addFl B p m) (bnf B) = m := by unfold bfn addFl; simp
      rw [ep, em]
      exact hC1.mv (by rw [st2_nb (by omega), g1 _ (by omega) (by omega) (by omega)]) (by rw [st2_nb (by omega), g1 _ (by omega) (by omega) (by omega)]) (by rw [st2_nb (by omega), g1 _ (by omega) (by omega) (by omega)])
    · have ep : bfp (addFl B p m) f = bfp B f := by unfold bfp addFl; simp [h]
      have em : bfn (addFl B p m) f = bfn B f := by unfold bfn addFl; simp [h]
      rw [ep, em]
      exact (cF f (by omega)).mv (by rw [st2_nb (by omega), g1 _ (by omega) (by omega) (by omega), e1 _ (by omega) (by omega) (by omega)]) (by rw [st2_nb (by omega), g1 _ (by omega) (by omega) (by omega), e1 _ (by omega) (by omega) (by omega)]) (by rw [st2_nb (by omega), g1 _ (by omega) (by omega) (by omega), e1 _ (by omega) (by omega) (by omega)])
  · have hi' : i < bne B := hi
    have ef : bef (addFl B p m) i = bef B i := rfl
    have ep : bfp (addFl B p m) (bef B i) = bfp B (bef B i) := by
      have := (o4 i hi').1
      unfold bfp addFl; simp [show ¬ bef B i = bnf B by omega]
    rw [ef, ep]
    exact (cE i hi').mv (by rw [st2_nb (by omega), g1 _ (by omega) (by omega) (by omega), e1 _ (by omega) (by omega) (by omega)]) (by rw [st2_nb (by omega), g1 _ (by omega) (by omega) (by omega), e1 _ (by omega) (by omega) (by omega)]) (by rw [st2_nb (by omega), g1 _ (by omega) (by omega) (by omega), e1 _ (by omega) (by omega) (by omega)])
  · have hl2 : l < bnl B := hl'
    rw [st2_nb (by omega), g1 _ (by omega) (by omega) (by omega), e1 _ (by omega) (by omega) (by omega)]; exact (cL l hl2).1
  · have hl2 : l < bnl B := hl'
    rw [g3 _ (by omega)]; exact (cL l hl2).2 i hi
  · rw [st2_nk (by decide)]; exact hN2.1
  · obtain ⟨x1, x2, x3⟩ := hN2.2 k hk
    exact ⟨x1, by rw [st2_nb (by omega)]; exact x2, by rw [st2_nb (by omega)]; exact x3⟩
theorem addFl_ok {p m : Nat} (hk : okB B) (hnf : bnf B < 4) (hpm : pn p m) : okB (addFl B p m) := by
  obtain ⟨⟨o1, o2⟩, ⟨o3, o4⟩, ⟨o5, o6⟩⟩ := hk
  have old : ∀ f, f < bnf B → bfp (addFl B p m) f = bfp B f ∧ bfn (addFl B p m) f = bfn B f := fun f hf => by
    unfold bfp bfn addFl; simp [show ¬ f = bnf B by omega]
  refine ⟨⟨by show bnf B + 1 ≤ 4; omega, fun f hf => ?_⟩, ⟨o3, fun i hi => ?_⟩, ⟨o5, fun l hl => ?_⟩⟩
  · have hf2 : f < bnf B + 1 := hf
    by_cases h : f = bnf B
    · subst h
      have ep : bfp (addFl B p m) (bnf B) = p := by unfold bfp addFl; simp
      have em : bfn (addFl B p m) (bnf B) = m := by unfold bfn addFl; simp
      rw [ep, em]; exact hpm
    · rw [(old f (by omega)).1, (old f (by omega)).2]; exact o2 f (by omega)
  · obtain ⟨x1, x2, x3⟩ := o4 i hi
    have x1' : bef (addFl B p m) i < bnf B := x1
    refine ⟨by show bef B i < bnf B + 1; omega, ?_, ?_⟩
    · rw [(old _ x1').1]; exact x2
    · rw [(old _ x1').1]; exact x3
  · obtain ⟨x1, x2, x3⟩ := o6 l hl
    exact ⟨by show blf B l < bnf B + 1; omega, x2, x3⟩
end
