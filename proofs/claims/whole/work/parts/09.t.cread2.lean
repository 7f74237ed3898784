/-! ===== the whole text: the class ===== -/
/-- where the class will say that the fault is -/
def FPC (I : Nat → Nat → Int32) (J : Nat → Nat → Int64) (b : Nat → Nat) (n T k s : Nat) : Prop := (k = 7 ∧ I 65 11 = 7 ∧ I 65 12 = zn (ps b n s)) ∨ (¬ I 65 11 = 7 ∧ CT I J kwC b n T s ∧ s < 1000)
def B0 : BKD := ((0, fun _ => (0, 0)), (0, fun _ => (0, 0, 0, fun _ => 0, fun _ => 0)), (0, fun _ => (0, fun _ => 0)))
def N0 : NMD := (0, fun _ => (0, 0, 0))
def sBook (b : Nat → Nat) (n : Nat) : (Nat × Nat) ⊕ (BKD × NMD) := sBk b n 901 B0 N0 0
section
variable {β : Type} {kw : Nat → Int64} {K : List (Nat × Nat)} {I I' : Nat → Nat → Int32} {J J' : Nat → Nat → Int64} {A : Nat → Nat → Option Nat} {w : WD}
variable {b : Nat → Nat} {n T t sb m : Nat} {B : BKD} {N : NMD} {A' : Nat → Nat → Option Nat}
theorem t_cReadL {Q : Int32 → Hp → Prop} (hSK : SK K) (hsb : sb = 104 ∨ sb = 172) : ∀ k i n0 t B N I J A, k + i = 901 → k < n0 → PS K A sb → OT K I → CRd I J sb b n T B N t → okNB B N → t ≤ 900 →
    (∀ kk s I' J' A', sBk b n k B N t = Sum.inl (kk, s) → 1 ≤ kk ∧ kk ≤ 7 → CFr sb I J I' J' → (∀ x j, (x ≠ 65 ∨ j ≠ 6) → A' x j = A x j) → PS K A' sb → FPC I' J' b n T kk s → Q (zn kk) (K, I', J', A')) →
    (∀ B' N' I' J' A', sBk b n k B N t = Sum.inr (B', N') → CFr sb I J I' J' → (∀ x j, (x ≠ 65 ∨ j ≠ 6) → A' x j = A x j) → PS K A' sb → 1 ≤ bnf B' → okB B' → CBC I' J' sb B' → ¬ I' 65 11 = 7 → (∃ s, CT I' J' kwC b n T s ∧ s < 1000) → Q 0 (K, I', J', A')) →
    wp (lq1 (f_X3_read_b22 (some 65)) n0 (zn i)) Q (K, I, J, A) := by
  intro k
  induction k with
  | zero =>
    intro i n0 t B N I J A hki hn0 hP hO hC hNB ht qe qs
    obtain ⟨n1, rfl⟩ : ∃ n1, n0 = n1 + 1 := ⟨n0 - 1, by omega⟩
    show wp (f_X3_read_b22 (some 65) (lq1 _ n1) (zn i)) Q (K, I, J, A)
    unfold f_X3_read_b22
    exact wp_ifp (show zn i > zn 900 from lt_t (by omega)) (wp_rt (qe 1 t _ _ _ rfl (by omega) (fun _ _ => ⟨rfl, rfl⟩) (fun _ _ _ => rfl) hP (Or.inr ⟨by rw [hC.2.2.2.2.2.2]; decide, hC.1, by omega⟩)))
  | succ k ih =>
    intro i n0 t B N I J A hki hn0 hP hO hC hNB ht qe qs
    obtain ⟨n1, rfl⟩ : ∃ n1, n0 = n1 + 1 := ⟨n0 - 1, by omega⟩
    show wp (f_X3_read_b22 (some 65) (lq1 (f_X3_read_b22 (some 65)) n1) (zn i)) Q (K, I, J, A)
    unfold f_X3_read_b22
    unfold sBk at qe qs
    have hk := hP.1
    refine wp_ifn (show ¬ zn i > zn 900 from lt_f (by omega)) (b_ck hk (wp_bd (t_cLine ⟨hP, hO, hSK, hsb⟩ hC hNB ht (fun kk s I1 J1 A1 g hs F1 hA1 hP1 e11 hne h7 => ?_) (fun B1 N1 t1 I1 J1 A1 g htt F1 hA1 C1 hNB1 hP1 => ?_))))
    · rw [g] at qe
      have hkk : kk ≤ 7 := by
        by_cases h : kk = 7
        · omega
        · have := (hne h).1; omega
      refine wp_ifn (by decide) (b_getIv hk e11 (wp_rt (qe kk s I1 J1 A1 rfl ⟨hs.1, hkk⟩ F1 hA1 hP1 ?_)))
      by_cases h : kk = 7
      · exact Or.inl ⟨h, by rw [e11, h]; rfl, h7 h⟩
      · refine Or.inr ⟨?_, (hne h).2, hs.2⟩
        rw [e11]
        exact fun q => h ((zn_inj (b := 7) (by omega) (by omega)).mp q)
    · rw [g] at qe qs
      dsimp only at qe qs
      obtain ⟨hk1, ⟨h0, h1, h2, h3, h4, h5⟩, hT, _, _, _, _, hBs⟩ := hP1
      have hO1 : OT K I1 := hO.ga Gr.rfl' (F1 0 (by unfold crg; omega)).1 (F1 1 (by unfold crg; omega)).1
      have hP1 : PS K A1 sb := by
        have e : A1 = st2 A 65 6 (A1 65 6) := by
          funext x j
          rw [st2_app]
          by_cases h : x = 65 ∧ j = 6
          · rw [if_pos h, h.1, h.2]
          · rw [if_neg h]; exact hA1 x j (by omega)
        rw [e]
        exact hP.a6 hsb
      have hn := C1.1.1.1
      refine wp_ifp (by decide) (b_getA hk1 h0 (b_ck hT.1 (b_eq (t_atEnd hT C1.1) ?_)))
      by_cases hz : kd' kwC b n t1 = 0
      · rw [if_pos hz] at qe qs
        rw [hz]
        unfold f_X0_fieldsHeld
        refine wp_ifn (by decide) (b_getA hk1 h5 (b_ck hBs.1 (b_assoc (b_getIv hBs.1 C1.2.1.1.1 (b_rt ?_)))))
        have hf4 := C1.2.2.2.1.1.1
        have hz2 : I1 65 11 = 0 := C1.2.2.2.2.2.2
        have ht1 := htt.2
        by_cases hf : bnf B1 = 0
        · rw [if_pos hf] at qe
          refine wp_ifp (by rw [hf]; decide) (wp_rt (qe 6 t1 I1 J1 A1 rfl (by omega) F1 hA1 hP1 (Or.inr ⟨by rw [hz2]; decide, C1.1, ht1⟩)))
        · rw [if_neg hf] at qs
          refine wp_ifn ?_ (wp_rt (qs B1 N1 I1 J1 A1 rfl F1 hA1 hP1 (by omega) C1.2.2.2.1 C1.2.1 (by rw [hz2]; decide) ⟨t1, C1.1, ht1⟩))
          show ¬ zn (bnf B1) ≤ zn 0
          rw [zn_le (by omega) (by omega)]; omega
      · rw [if_neg hz] at qe qs
        rw [beq_eq_false_iff_ne.mpr hz]
        refine wp_ifp rfl (b_getA hk1 h0 (b_ck hT.1 (wp_bd (t_cstep hT C1.1 hz (fun I2 J2 f2 c2 => ?_)))))
        rw [zn_succ]
        have C2 : CRd I2 J2 sb b n T B1 N1 (t1 + 1) := ⟨c2, C1.2.1.lo C1.2.2.2.1 (fun x a _ => ⟨f2.1 x (by omega), f2.2.2 x (by omega)⟩), C1.2.2.1.lo (fun x a _ => ⟨f2.1 x (by omega), f2.2.2 x (by omega)⟩), C1.2.2.2.1, C1.2.2.2.2.1, C1.2.2.2.2.2.1, by rw [f2.1 65 (by decide)]; exact C1.2.2.2.2.2.2⟩
        have ht1 := tok_lt (b := b) (t := t1) hn hz
        exact ih (i + 1) n1 (t1 + 1) B1 N1 I2 J2 A1 (by omega) (by omega) hP1 (hO1.ga Gr.rfl' (f2.1 0 (by decide)) (f2.1 1 (by decide))) C2 hNB1 (by omega) (fun kk s I3 J3 A3 g3 h3 F3 hA3 => qe kk s I3 J3 A3 g3 h3 (F1.trans (f2.cfr.trans F3)) (fun x j hx => (hA3 x j hx).trans (hA1 x j hx))) (fun B3 N3 I3 J3 A3 g3 F3 hA3 => qs B3 N3 I3 J3 A3 g3 (F1.trans (f2.cfr.trans F3)) (fun x j hx => (hA3 x j hx).trans (hA1 x j hx)))
end
