/-! ===== the class's reading: its first words ===== -/
/-- what a step may change -/
def SF (I : Nat → Nat → Int32) (J : Nat → Nat → Int64) (I' : Nat → Nat → Int32) (J' : Nat → Nat → Int64) : Prop := (∀ x, x ≠ 66 → I' x = I x) ∧ (∀ j, j < 8 → I' 66 j = I 66 j) ∧ ∀ x, x ≠ 66 → J' x = J x
section
variable {β : Type} {kw : Nat → Int64} {K : List (Nat × Nat)} {I I' : Nat → Nat → Int32} {J J' : Nat → Nat → Int64} {A : Nat → Nat → Option Nat} {w : WD}
variable {b : Nat → Nat} {n T t : Nat}
theorem ps_mono : ∀ t, ps b n t < n → t ≤ ps b n t := by
  intro t
  induction t with
  | zero => intro _; exact Nat.zero_le _
  | succ t ih =>
    intro h
    by_cases h1 : ps b n t < n
    · have h2 := ih h1
      have h3 := tkN_rng (b := b) h1
      rw [ps_s h1]
      have h4 := run_r (P := isSp) (b := b) (n := n) (j := tkN b n (ps b n t)) h3.2
      omega
    · rw [ps_e h1] at h
      exact absurd h h1
theorem kd_lt (hk : kd' kw b n t ≠ 0) : ps b n t < n := by
  by_cases h : ps b n t < n
  · exact h
  · exact absurd (show kd' kw b n t = 0 from if_neg h) hk
theorem CT.o {x j : Nat} {v : Int32} (h : CT I J kw b n T t) (hx : x ≠ 66 ∧ x ≠ 67 ∧ x ≠ 69 ∧ x ≠ 71) : CT (st2 I x j v) J kw b n T t := by
  obtain ⟨⟨h1, h2, h3, h4⟩, ⟨g1, g2, g3⟩, f1, f2, f3, f4⟩ := h
  refine ⟨⟨h1, ?_, fun i hi => ⟨(h3 i hi).1, ?_⟩, h4⟩, ⟨g1, ?_, fun s hs => ⟨(g3 s hs).1, ?_, (g3 s hs).2.2.1, ?_⟩⟩, f1, ?_, ?_, f4⟩
  · rw [st2_nb (Ne.symm hx.1)]; exact h2
  · rw [st2_nb (Ne.symm hx.2.1)]; exact (h3 i hi).2
  · rw [st2_nb (Ne.symm hx.1)]; exact g2
  · rw [st2_nb (Ne.symm hx.2.2.1)]; exact (g3 s hs).2.1
  · rw [st2_nb (Ne.symm hx.2.2.2)]; exact (g3 s hs).2.2.2
  · rw [st2_nb (Ne.symm hx.1)]; exact f2
  · rw [st2_nb (Ne.symm hx.1)]; exact f3
theorem CT.jj (h : CT I J kw b n T t) (e66 : J' 66 = J 66) (e68 : J' 68 = J 68) (e70 : J' 70 = J 70) : CT I J' kw b n T t := by
  obtain ⟨⟨h1, h2, h3, h4⟩, ⟨g1, g2, g3⟩, f1, f2, f3, f4⟩ := h
  exact ⟨⟨h1, h2, h3, fun i hi => by rw [e68]; exact h4 i hi⟩, ⟨g1, g2, fun s hs => ⟨(g3 s hs).1, (g3 s hs).2.1, by rw [e70]; exact (g3 s hs).2.2.1, (g3 s hs).2.2.2⟩⟩, f1, f2, f3, by rw [e66]; exact f4⟩
theorem t_cstep {Q : Unit → Hp → Prop} (hT : TS K A) (hC : CT I J kw b n T t) (hk : kd' kw b n t ≠ 0) (q : ∀ I' J', SF I J I' J' → CT I' J' kw b n T (t + 1) → Q () (K, I', J', A)) : wp (f_X9_step (some 66)) Q (K, I, J, A) := by
  obtain ⟨hB, hA, hp, h8, h9, h10⟩ := hC
  have h1 := kd_lt hk
  have h2 := ps_mono t h1
  have hn := hB.1
  refine t_step (t := t + 1) hT hB hA hp (h8.trans ?_) (by omega) (fun I' J' f1 f2 f3 hC => q I' J' ⟨f1, f2, f3⟩ hC)
  rw [zn_zi]; congr 1; omega
theorem t_atName (hT : TS K A) (hC : CT I J kwC b n T t) : f_X9_atName (some 66) (K, I, J, A) = some (b01 (kd' kwC b n t == 5), (K, I, J, A)) := by
  apply wp_get
  obtain ⟨_, _, _, _, h9, h10⟩ := hC
  have hk : kd' kwC b n t < 6 := by unfold kd' tkK; repeat (first | split | decide)
  unfold f_X9_atName
  refine b_getIv hT.1 h9 (wp_ifq (not_congr (zn_inj (b := 5) (by omega) (by omega))) ?_)
  by_cases h : kd' kwC b n t = 5
  · exact wp_ifn (fun q => q h) (wp_rt ⟨by rw [h]; rfl, rfl⟩)
  · exact wp_ifp h (wp_rt ⟨by rw [beq_eq_false_iff_ne.mpr h]; rfl, rfl⟩)
theorem t_atWhole (hT : TS K A) (hC : CT I J kwC b n T t) : f_X9_atWhole (some 66) (K, I, J, A) = some (b01 (kd' kwC b n t == 2), (K, I, J, A)) := by
  apply wp_get
  obtain ⟨_, _, _, _, h9, h10⟩ := hC
  have hk : kd' kwC b n t < 6 := by unfold kd' tkK; repeat (first | split | decide)
  unfold f_X9_atWhole
  refine b_getIv hT.1 h9 (wp_ifq (not_congr (zn_inj (b := 2) (by omega) (by omega))) ?_)
  by_cases h : kd' kwC b n t = 2
  · exact wp_ifn (fun q => q h) (wp_rt ⟨by rw [h]; rfl, rfl⟩)
  · exact wp_ifp h (wp_rt ⟨by rw [beq_eq_false_iff_ne.mpr h]; rfl, rfl⟩)
theorem t_atEnd (hT : TS K A) (hC : CT I J kwC b n T t) : f_X9_atEnd (some 66) (K, I, J, A) = some (b01 (kd' kwC b n t == 0), (K, I, J, A)) := by
  apply wp_get
  obtain ⟨_, _, _, _, h9, h10⟩ := hC
  have hk : kd' kwC b n t < 6 := by unfold kd' tkK; repeat (first | split | decide)
  unfold f_X9_atEnd
  refine b_getIv hT.1 h9 (wp_ifq (not_congr (zn0 (by omega))) ?_)
  by_cases h : kd' kwC b n t = 0
  · exact wp_ifn (fun q => q h) (wp_rt ⟨by rw [h]; rfl, rfl⟩)
  · exact wp_ifp h (wp_rt ⟨by rw [beq_eq_false_iff_ne.mpr h]; rfl, rfl⟩)
theorem t_nameNow (hT : TS K A) (hC : CT I J kwC b n T t) (h : kd' kwC b n t = 5) : f_X9_nameNow (some 66) (K, I, J, A) = some (vl kwC b n t, (K, I, J, A)) := by
  apply wp_get
  obtain ⟨_, _, _, _, h9, h10⟩ := hC
  rw [h] at h9
  unfold f_X9_nameNow
  exact b_getIv hT.1 h9 (wp_ifn (by decide) (b_getJv hT.1 h10 (wp_rt ⟨rfl, rfl⟩)))
/-- the whole that is there, or -1 -/
def whI (b : Nat → Nat) (n t : Nat) : Int := if kd' kwC b n t = 2 then whN b n t else -1
theorem t_wholeNow (hT : TS K A) (hC : CT I J kwC b n T t) : f_X9_wholeNow (some 66) (K, I, J, A) = some (zi (whI b n t), (K, I, J, A)) := by
  apply wp_get
  obtain ⟨_, _, _, _, h9, h10⟩ := hC
  have hk : kd' kwC b n t < 6 := by unfold kd' tkK; repeat (first | split | decide)
  unfold f_X9_wholeNow whI
  refine b_getIv hT.1 h9 (wp_ifq (not_congr (zn_inj (b := 2) (by omega) (by omega))) ?_)
  by_cases h : kd' kwC b n t = 2
  · refine wp_ifn (fun q => q h) (b_getJv hT.1 h10 (wp_rt ⟨?_, rfl⟩))
    rw [(wh_ok h).1, Int32.toInt32_toInt64, if_pos h, zn_zi]
  · exact wp_ifp h (wp_rt ⟨by rw [if_neg h]; exact z_m1, rfl⟩)
theorem t_placeNow (hT : TS K A) (hC : CT I J kwC b n T t) (ht : t < 100000) : f_X9_placeNow (some 66) (K, I, J, A) = some (zn (ps b n t), (K, I, J, A)) := by
  apply wp_get
  obtain ⟨k66, ⟨a0, a1, a2, a3, a4⟩, k67, k68, k69, k70, k71⟩ := hT
  obtain ⟨⟨h1, h2, h3, h4⟩, ⟨g1, g2, g3⟩, f1, f2, f3, f4⟩ := hC
  unfold f_X9_placeNow
  refine b_getIv k66 f2 (b_getIv k66 g2 ?_)
  by_cases h : t < T
  · refine wp_ifn (ge_f (by omega)) (b_getA k66 a4 (b_getIv k66 f2 (b_eq (t_cellp k71 (by omega) (by omega)) (wp_rt ⟨(g3 t h).2.2.2, rfl⟩))))
  · refine wp_ifp (ge_t (by omega)) (b_getIv k66 h2 (wp_rt ⟨?_, rfl⟩))
    have := ps_ge f1 (t - T)
    rw [show T + (t - T) = t by omega] at this
    rw [this]
theorem t_blame {k : Nat} (hk : kk K 65 = (0, 3)) : f_X3_blame (some 65) (zn k) (K, I, J, A) = some (0, (K, st2 I 65 11 (zn k), J, A)) := by
  apply wp_get'
  unfold f_X3_blame
  exact b_putI hk (by decide) (wp_rt ⟨rfl, rfl⟩)
theorem e_blame {Q : Int32 → Hp → Prop} {k : Nat} (hk : kk K 65 = (0, 3)) (q : Q 0 (K, st2 I 65 11 (zn k), J, A)) : wp (mBd (mCk 3 (some 65) (f_X3_blame (some 65) (zn k))) (fun r => mRq (r = 0 ∨ r = 1) (mRt r))) Q (K, I, J, A) := b_ck hk (b_eq (t_blame hk) (wp_rq (by decide) (wp_rt q)))
theorem t_takeWord {Q : Int32 → Hp → Prop} {i : Nat} (hk : kk K 65 = (0, 3)) (h0 : A 65 0 = some 66) (hT : TS K A) (hC : CT I J kwC b n T t)
    (q1 : isW b n t i = true → ∀ I' J', SF I J I' J' → CT I' J' kwC b n T (t + 1) → Q 1 (K, I', J', A)) (q0 : isW b n t i = false → Q 0 (K, st2 I 65 11 (zn 1), J, A)) : wp (f_X3_takeWord (some 65) (zn i)) Q (K, I, J, A) := by
  unfold f_X3_takeWord
  refine b_getA hk h0 (b_ck hT.1 (b_eq (t_atWord hT hC) ?_))
  cases h : isW b n t i with
  | true =>
    have hk4 := isW_k h
    exact wp_ifp (by decide) (b_getA hk h0 (b_ck hT.1 (wp_bd (t_cstep hT hC (by omega) (fun I' J' f c => wp_rt (q1 h I' J' f c))))))
  | false => exact wp_ifn (by decide) (e_blame (k := 1) hk (q0 h))
theorem t_takeSign {Q : Int32 → Hp → Prop} {c : Nat} (hk : kk K 65 = (0, 3)) (h0 : A 65 0 = some 66) (hT : TS K A) (hC : CT I J kwC b n T t)
    (q1 : isG b n t c = true → ∀ I' J', SF I J I' J' → CT I' J' kwC b n T (t + 1) → Q 1 (K, I', J', A)) (q0 : isG b n t c = false → Q 0 (K, st2 I 65 11 (zn 1), J, A)) : wp (f_X3_takeSign (some 65) (zn c)) Q (K, I, J, A) := by
  unfold f_X3_takeSign
  refine b_getA hk h0 (b_ck hT.1 (b_eq (t_atSign hT hC) ?_))
  cases h : isG b n t c with
  | true =>
    have hk4 := isG_k h
    exact wp_ifp (by decide) (b_getA hk h0 (b_ck hT.1 (wp_bd (t_cstep hT hC (by omega) (fun I' J' f c => wp_rt (q1 h I' J' f c))))))
  | false => exact wp_ifn (by decide) (e_blame (k := 1) hk (q0 h))
theorem t_takeWhole {Q : Int32 → Hp → Prop} {g : Bool} (hk : kk K 65 = (0, 3)) (h0 : A 65 0 = some 66) (hT : TS K A) (hC : CT I J kwC b n T t)
    (q1 : kd' kwC b n t = 2 → g = true → ∀ I' J', SF (st2 I 65 9 (zn (whN b n t))) J I' J' → CT I' J' kwC b n T (t + 1) → Q 1 (K, I', J', A)) (q4 : kd' kwC b n t = 2 → g = false → Q 0 (K, st2 I 65 11 (zn 4), J, A)) (q0 : kd' kwC b n t ≠ 2 → Q 0 (K, st2 I 65 11 (zn 1), J, A)) : wp (f_X3_takeWhole (some 65) (b01 g)) Q (K, I, J, A) := by
  unfold f_X3_takeWhole
  refine b_getA hk h0 (b_ck hT.1 (b_eq (t_atWhole hT hC) ?_))
  by_cases h : kd' kwC b n t = 2
  · rw [h]
    refine wp_ifp (by decide) ?_
    cases g with
    | true =>
      refine wp_ifp (by decide) (b_getA hk h0 (b_ck hT.1 (b_eq (t_wholeNow hT hC) ?_)))
      rw [show zi (whI b n t) = zn (whN b n t) from by unfold whI; rw [if_pos h, zn_zi]]
      exact b_putI hk (by decide) (b_getA hk h0 (b_ck hT.1 (wp_bd (t_cstep hT (hC.o (by decide)) (by omega) (fun I' J' f c => wp_rt (q1 h rfl I' J' f c))))))
    | false => exact wp_ifn (by decide) (e_blame (k := 4) hk (q4 h rfl))
  · rw [beq_eq_false_iff_ne.mpr h]
    exact wp_ifn (by decide) (e_blame (k := 1) hk (q0 h))
theorem l64 {x y : Nat} (hx : x < 2147483648) (hy : y < 2147483648) : (zn x).toInt64 < (zn y).toInt64 ↔ x < y := by
  rw [Int64.lt_iff_toInt_lt, zn_i64 hx, zn_i64 hy]
  omega
theorem t_atWholeWithin {lo hi : Nat} (hT : TS K A) (hC : CT I J kwC b n T t) (hlo : lo < 10000) (hhi : hi < 10000) : f_X9_atWholeWithin (some 66) (zn lo) (zn hi) (K, I, J, A) = some (b01 (kd' kwC b n t == 2 && (decide (lo ≤ whN b n t) && decide (whN b n t ≤ hi))), (K, I, J, A)) := by
  apply wp_get
  obtain ⟨_, _, _, _, h9, h10⟩ := hC
  have hk : kd' kwC b n t < 6 := by unfold kd' tkK; repeat (first | split | decide)
  unfold f_X9_atWholeWithin
  refine b_getIv hT.1 h9 (wp_ifq (not_congr (zn_inj (b := 2) (by omega) (by omega))) ?_)
  by_cases h : kd' kwC b n t = 2
  · obtain ⟨w1, w2⟩ := wh_ok h
    rw [w1] at h10
    refine wp_ifn (fun q => q h) (b_getJv hT.1 h10 ?_)
    rw [h, show ((2 : Nat) == 2) = true from rfl, Bool.true_and]
    refine wp_ifq (l64 (by omega) (by omega)) ?_
    by_cases h1 : whN b n t < lo
    · refine wp_ifp h1 (wp_rt ⟨?_, rfl⟩)
      rw [show decide (lo ≤ whN b n t) = false from by simp; omega]; rfl
    · refine wp_ifn h1 (b_getJv hT.1 h10 ?_)
      rw [show decide (lo ≤ whN b n t) = true from by simp; omega]
      refine wp_ifq (show (zn (whN b n t)).toInt64 > (zn hi).toInt64 ↔ _ from l64 (by omega) (by omega)) ?_
      by_cases h2 : hi < whN b n t
      · refine wp_ifp h2 (wp_rt ⟨?_, rfl⟩)
        rw [show decide (whN b n t ≤ hi) = false from by simp; omega]; rfl
      · refine wp_ifn h2 (wp_rt ⟨?_, rfl⟩)
        rw [show decide (whN b n t ≤ hi) = true from by simp; omega]; rfl
  · exact wp_ifp h (wp_rt ⟨by rw [beq_eq_false_iff_ne.mpr h]; rfl, rfl⟩)
end
