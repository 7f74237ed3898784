/-! ===== the reference's reading: words, signs, wholes ===== -/
def nvN (b : Nat → Nat) (j : Nat) : Nat → Nat
  | 0 => 0
  | k + 1 => nvN b j k * 10 + (b (j + k) - 48)
theorem run_all {P : Nat → Bool} {b : Nat → Nat} {n : Nat} : ∀ d j, n - j = d → ∀ i, j ≤ i → i < run P b n j → P (b i) = true := by
  intro d
  induction d with
  | zero =>
    intro j h i h1 h2
    rw [run_no (fun q => by omega)] at h2
    omega
  | succ d ih =>
    intro j h i h1 h2
    by_cases h3 : j < n ∧ P (b j) = true
    · by_cases h4 : i = j
      · subst h4; exact h3.2
      · rw [run_go h3] at h2
        exact ih (j + 1) (by omega) i (by omega) h2
    · rw [run_no h3] at h2
      omega
theorem nvF_N {b : Nat → Nat} {j : Nat} : ∀ k, (∀ i, i < k → isD (b (j + i)) = true) → nvF b j k = zn (nvN b j k) ∧ nvN b j k < 10 ^ k := by
  intro k
  induction k with
  | zero => intro _; exact ⟨rfl, Nat.lt_of_lt_of_eq Nat.zero_lt_one rfl⟩
  | succ k ih =>
    intro h
    obtain ⟨h1, h2⟩ := ih (fun i hi => h i (by omega))
    have h3 := h k (by omega)
    unfold isD at h3
    simp only [Bool.and_eq_true, decide_eq_true_eq] at h3
    constructor
    · show nvF b j k * 10 + (zn (b (j + k)) - 48) = zn (nvN b j k * 10 + (b (j + k) - 48))
      rw [h1, show (10 : Int32) = zn 10 from rfl, zn_mul, show (48 : Int32) = zn 48 from rfl, zn_sub h3.1, zn_add]
    · show nvN b j k * 10 + (b (j + k) - 48) < 10 ^ (k + 1)
      rw [Nat.pow_succ]
      omega
/-- the whole at token t -/
def whN (b : Nat → Nat) (n t : Nat) : Nat := nvN b (ps b n t) (run isD b n (ps b n t) - ps b n t)
theorem wh_ok {kw : Nat → Int64} {b : Nat → Nat} {n t : Nat} (h : kd' kw b n t = 2) : vl kw b n t = (zn (whN b n t)).toInt64 ∧ whN b n t ≤ 999 := by
  unfold kd' at h
  by_cases hp : ps b n t < n
  · rw [if_pos hp] at h
    unfold tkK at h
    by_cases hL : isL (b (ps b n t)) = true
    · rw [if_pos hL] at h
      by_cases h8 : run isL b n (ps b n t) - ps b n t ≤ 8
      · rw [if_pos h8] at h
        cases hk : kpt kw (wvF b (ps b n t) (run isL b n (ps b n t) - ps b n t)) with
        | some i => rw [hk] at h; exact absurd h (show ¬ (4 : Nat) = 2 by decide)
        | none => rw [hk] at h; exact absurd h (show ¬ (5 : Nat) = 2 by decide)
      · rw [if_neg h8] at h; exact absurd h (by decide)
    · rw [if_neg hL] at h
      by_cases hD : isD (b (ps b n t)) = true
      · rw [if_pos hD] at h
        by_cases h3 : run isD b n (ps b n t) - ps b n t ≤ 3
        · have hr := run_r (P := isD) (b := b) (n := n) (j := ps b n t) (by omega)
          have hall : ∀ i, i < run isD b n (ps b n t) - ps b n t → isD (b (ps b n t + i)) = true := fun i hi => run_all (P := isD) (b := b) (n := n) _ (ps b n t) rfl _ (by omega) (by omega)
          obtain ⟨h1, h2⟩ := nvF_N _ hall
          have hlt : (10 : Nat) ^ (run isD b n (ps b n t) - ps b n t) ≤ 10 ^ 3 := Nat.pow_le_pow_right (by decide) h3
          refine ⟨?_, ?_⟩
          · unfold vl tkV whN
            rw [if_pos hp, if_neg hL, if_pos hD, h1]
          · unfold whN; omega
        · rw [if_neg h3] at h; exact absurd h (by decide)
      · rw [if_neg hD] at h
        by_cases hG : isSg (b (ps b n t)) = true
        · rw [if_pos hG] at h; exact absurd h (by decide)
        · rw [if_neg hG] at h; exact absurd h (by decide)
  · rw [if_neg hp] at h; exact absurd h (by decide)
section
variable {β : Type} {kw : Nat → Int64} {K : List (Nat × Nat)} {I I' : Nat → Nat → Int32} {J J' : Nat → Nat → Int64} {A : Nat → Nat → Option Nat} {w : WD}
variable {b : Nat → Nat} {n T t : Nat}
theorem isW_k {i : Nat} (h : isW b n t i = true) : kd' kwC b n t = 4 := by
  unfold isW at h
  simp only [Bool.and_eq_true, beq_iff_eq] at h
  exact h.1
theorem isG_k {i : Nat} (h : isG b n t i = true) : kd' kwC b n t = 3 := by
  unfold isG at h
  simp only [Bool.and_eq_true, beq_iff_eq] at h
  exact h.1
theorem t_next {Q : Unit → Hp → Prop} (hM : MS K A 224) (hB : RB I b n) (hR : RT I J kwC b n t) (h5 : ¬ I 224 11 = 5) (hk : kd' kwC b n t ≠ 1) (q : ∀ I' J', RF I J I' J' → RT I' J' kwC b n (t + 1) → ¬ I' 224 11 = 5 → Q () (K, I', J', A)) : wp (f_X13_goesOn (some 224)) Q (K, I, J, A) := t_goesOn hM hB h5 (hR.2.2 hk) q
theorem t_needs {Q : Unit → Hp → Prop} {i : Nat} (hM : MS K A 224) (hS : SK K) (hB : RB I b n) (hR : RT I J kwC b n t) (h5 : ¬ I 224 11 = 5) (hi : i < 13)
    (q1 : isW b n t i = true → ∀ I' J', RF I J I' J' → RT I' J' kwC b n (t + 1) → ¬ I' 224 11 = 5 → Q () (K, I', J', A)) (q2 : isW b n t i = false → Q () (K, over I 1 (ps b n t), J, A)) : wp (f_X13_needs (some 224) (some (6 + i))) Q (K, I, J, A) := by
  unfold f_X13_needs
  refine b_ck hM.1 (b_eq (t_isWord hM hS hi hR) ?_)
  cases h : isW b n t i with
  | true =>
    have hk := isW_k h
    exact wp_ifp (by decide) (b_ck hM.1 (wp_bd (t_next hM hB hR h5 (by omega) (fun I' J' a c d => wp_rt (q1 h I' J' a c d)))))
  | false => exact wp_ifn (by decide) (b_ck hM.1 (b_eq (t_wrong (k := 1) hM hR h5) (b_ck hM.1 (b_eq (o_goesOn hM over_11) (wp_rt (q2 h))))))
theorem t_needsSign {Q : Unit → Hp → Prop} {c : Nat} (hM : MS K A 224) (hB : RB I b n) (hR : RT I J kwC b n t) (h5 : ¬ I 224 11 = 5)
    (q1 : isG b n t c = true → ∀ I' J', RF I J I' J' → RT I' J' kwC b n (t + 1) → ¬ I' 224 11 = 5 → Q () (K, I', J', A)) (q2 : isG b n t c = false → Q () (K, over I 1 (ps b n t), J, A)) : wp (f_X13_needsSign (some 224) (zn c)) Q (K, I, J, A) := by
  unfold f_X13_needsSign
  refine b_ck hM.1 (b_eq (t_isSign hM hR) ?_)
  cases h : isG b n t c with
  | true =>
    have hk := isG_k h
    exact wp_ifp (by decide) (b_ck hM.1 (wp_bd (t_next hM hB hR h5 (by omega) (fun I' J' a c d => wp_rt (q1 h I' J' a c d)))))
  | false => exact wp_ifn (by decide) (b_ck hM.1 (b_eq (t_wrong (k := 1) hM hR h5) (b_ck hM.1 (b_eq (o_goesOn hM over_11) (wp_rt (q2 h))))))
theorem t_eatsSign {Q : Int32 → Hp → Prop} {c : Nat} (hM : MS K A 224) (hB : RB I b n) (hR : RT I J kwC b n t) (h5 : ¬ I 224 11 = 5)
    (q1 : isG b n t c = true → ∀ I' J', RF I J I' J' → RT I' J' kwC b n (t + 1) → ¬ I' 224 11 = 5 → Q 1 (K, I', J', A)) (q2 : isG b n t c = false → Q 0 (K, I, J, A)) : wp (f_X13_eatsSign (some 224) (zn c)) Q (K, I, J, A) := by
  unfold f_X13_eatsSign
  refine b_ck hM.1 (b_eq (t_isSign hM hR) ?_)
  cases h : isG b n t c with
  | true =>
    have hk := isG_k h
    exact wp_ifn (by decide) (b_ck hM.1 (wp_bd (t_next hM hB hR h5 (by omega) (fun I' J' a c d => wp_rq (by decide) (wp_rt (q1 h I' J' a c d))))))
  | false => exact wp_ifp rfl (wp_rq (by decide) (wp_rt (q2 h)))
theorem t_eatsWord {Q : Int32 → Hp → Prop} {i : Nat} (hM : MS K A 224) (hS : SK K) (hB : RB I b n) (hR : RT I J kwC b n t) (h5 : ¬ I 224 11 = 5) (hi : i < 13)
    (q1 : isW b n t i = true → ∀ I' J', RF I J I' J' → RT I' J' kwC b n (t + 1) → ¬ I' 224 11 = 5 → Q 1 (K, I', J', A)) (q2 : isW b n t i = false → Q 0 (K, I, J, A)) : wp (f_X13_eatsWord (some 224) (some (6 + i))) Q (K, I, J, A) := by
  unfold f_X13_eatsWord
  refine b_ck hM.1 (b_eq (t_isWord hM hS hi hR) ?_)
  cases h : isW b n t i with
  | true =>
    have hk := isW_k h
    exact wp_ifn (by decide) (b_ck hM.1 (wp_bd (t_next hM hB hR h5 (by omega) (fun I' J' a c d => wp_rq (by decide) (wp_rt (q1 h I' J' a c d))))))
  | false => exact wp_ifp rfl (wp_rq (by decide) (wp_rt (q2 h)))
/-- the sort is that of a whole -/
theorem RT.wh (hR : RT I J kwC b n t) : (kd' kwC b n t = 2 → I 224 11 = 3 ∧ I 224 14 = zn (whN b n t)) ∧ (kd' kwC b n t ≠ 2 → ¬ I 224 11 = 3) := by
  obtain ⟨_, h, _⟩ := hR
  rcases h with ⟨h1, h2⟩ | ⟨h1, h2⟩ | ⟨h1, h2, h3⟩ | ⟨h1, h2, h3⟩ | ⟨h1, h2, _⟩ | ⟨h1, h2, _⟩
  · exact ⟨fun h => by omega, fun _ => by rw [h2]; decide⟩
  · exact ⟨fun h => by omega, fun _ => by rw [h2]; decide⟩
  · refine ⟨fun h => ⟨h2, ?_⟩, fun h => absurd h1 h⟩
    rw [(wh_ok h).1] at h3
    have := congrArg Int64.toInt32 h3
    rw [Int32.toInt32_toInt64, Int32.toInt32_toInt64] at this
    exact this
  · exact ⟨fun h => by omega, fun _ => by rw [h2]; decide⟩
  · exact ⟨fun h => by omega, fun _ => by rw [h2]; decide⟩
  · exact ⟨fun h => by omega, fun _ => by rw [h2]; decide⟩
theorem t_bounded {Q : Int32 → Hp → Prop} {lo hi : Nat} (hM : MS K A 224) (hR : RT I J kwC b n t) (h5 : ¬ I 224 11 = 5) (hlo : lo < 10000) (hhi : hi < 10000)
    (q1 : kd' kwC b n t = 2 → lo ≤ whN b n t → whN b n t ≤ hi → Q (zn (whN b n t)) (K, I, J, A)) (q4 : kd' kwC b n t = 2 → ¬ (lo ≤ whN b n t ∧ whN b n t ≤ hi) → Q (zn lo) (K, over I 4 (ps b n t), J, A)) (q0 : kd' kwC b n t ≠ 2 → Q (zn lo) (K, over I 1 (ps b n t), J, A)) : wp (f_X13_bounded (some 224) (zn lo) (zn hi)) Q (K, I, J, A) := by
  unfold f_X13_bounded
  have bad : ∀ {k : Nat}, Q (zn lo) (K, over I k (ps b n t), J, A) → wp (f_X13_bounded_j33 (some 224) (zn lo)) Q (K, over I k (ps b n t), J, A) := by
    intro k q
    unfold f_X13_bounded_j33
    exact b_getIv hM.1 over_11 (wp_ifn (by decide) (wp_rt q))
  by_cases h : kd' kwC b n t = 2
  · obtain ⟨h11, h14⟩ := hR.wh.1 h
    have hw := (wh_ok h).2
    refine b_getIv hM.1 h11 (wp_ifp rfl (b_getIv hM.1 h14 ?_))
    rw [zn_zi (whN b n t)]
    refine b_eq (t_inN (by omega) hlo hhi) ?_
    by_cases h2 : lo ≤ whN b n t ∧ whN b n t ≤ hi
    · rw [show (decide ((lo : Int) ≤ (whN b n t : Int)) && decide ((whN b n t : Int) ≤ (hi : Int))) = true from by simp; omega]
      refine wp_ifp (by decide) ?_
      unfold f_X13_bounded_j33
      exact b_getI hM.1 (wp_ifp h5 (b_getIv hM.1 h14 (wp_rt (q1 h h2.1 h2.2))))
    · rw [show (decide ((lo : Int) ≤ (whN b n t : Int)) && decide ((whN b n t : Int) ≤ (hi : Int))) = false from by simp; omega]
      exact wp_ifn (by decide) (b_ck hM.1 (b_eq (t_wrong (k := 4) hM hR h5) (bad (q4 h h2))))
  · exact b_getI hM.1 (wp_ifn (hR.wh.2 h) (b_ck hM.1 (b_eq (t_wrong (k := 1) hM hR h5) (bad (q0 h)))))
theorem t_readWhole {Q : Int32 → Hp → Prop} {lo hi : Nat} (hM : MS K A 224) (hB : RB I b n) (hR : RT I J kwC b n t) (h5 : ¬ I 224 11 = 5) (hlo : lo < 10000) (hhi : hi < 10000)
    (q1 : kd' kwC b n t = 2 → lo ≤ whN b n t → whN b n t ≤ hi → ∀ I' J', RF I J I' J' → RT I' J' kwC b n (t + 1) → ¬ I' 224 11 = 5 → Q (zn (whN b n t)) (K, I', J', A)) (q4 : kd' kwC b n t = 2 → ¬ (lo ≤ whN b n t ∧ whN b n t ≤ hi) → Q (zn lo) (K, over I 4 (ps b n t), J, A)) (q0 : kd' kwC b n t ≠ 2 → Q (zn lo) (K, over I 1 (ps b n t), J, A)) : wp (f_X13_readWhole (some 224) (zn lo) (zn hi)) Q (K, I, J, A) := by
  unfold f_X13_readWhole
  refine b_ck hM.1 (wp_bd (t_bounded hM hR h5 hlo hhi (fun h1 h2 h3 => b_ck hM.1 (wp_bd (t_next hM hB hR h5 (by omega) (fun I' J' a c d => wp_rt (q1 h1 h2 h3 I' J' a c d))))) (fun h1 h2 => b_ck hM.1 (b_eq (o_goesOn hM over_11) (wp_rt (q4 h1 h2)))) (fun h1 => b_ck hM.1 (b_eq (o_goesOn hM over_11) (wp_rt (q0 h1))))))
end
