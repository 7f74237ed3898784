/-! ===== tokens: the reference goes on ===== -/
def RB (I : Nat → Nat → Int32) (b : Nat → Nat) (n : Nat) : Prop := n ≤ 900 ∧ I 224 9 = zn n ∧ ∀ i, i < n → (b i < 256 ∧ I 227 i = byS (b i))
/-- the reference is at token t -/
def RT (I : Nat → Nat → Int32) (J : Nat → Nat → Int64) (kw : Nat → Int64) (b : Nat → Nat) (n t : Nat) : Prop :=
  I 224 12 = zn (ps b n t) ∧
  ((kd' kw b n t = 0 ∧ I 224 11 = 1) ∨ (kd' kw b n t = 1 ∧ I 224 11 = 0) ∨ (kd' kw b n t = 2 ∧ I 224 11 = 3 ∧ (I 224 14).toInt64 = vl kw b n t) ∨ (kd' kw b n t = 3 ∧ I 224 11 = 4 ∧ (I 224 13).toInt64 = vl kw b n t) ∨
    (kd' kw b n t = 4 ∧ I 224 11 = 2 ∧ ∃ i, kpt kw (J 224 17) = some i ∧ vl kw b n t = (zn i).toInt64) ∨ (kd' kw b n t = 5 ∧ I 224 11 = 2 ∧ J 224 17 = vl kw b n t ∧ kpt kw (vl kw b n t) = none)) ∧
  (kd' kw b n t ≠ 1 → ∃ s, s ≤ n ∧ I 224 10 = zn s ∧ run isSp b n s = ps b n (t + 1))
/-- what going on may change -/
def RF (I : Nat → Nat → Int32) (J : Nat → Nat → Int64) (I' : Nat → Nat → Int32) (J' : Nat → Nat → Int64) : Prop := (∀ x, x ≠ 224 → I' x = I x) ∧ (∀ j, (j < 10 ∨ 14 < j) → I' 224 j = I 224 j) ∧ (∀ x, x ≠ 224 → J' x = J x) ∧ ∀ j, j ≠ 17 → J' 224 j = J 224 j
theorem RF.rfl' {I : Nat → Nat → Int32} {J : Nat → Nat → Int64} : RF I J I J := ⟨fun _ _ => rfl, fun _ _ => rfl, fun _ _ => rfl, fun _ _ => rfl⟩
theorem RF.trans {I I' I'' : Nat → Nat → Int32} {J J' J'' : Nat → Nat → Int64} (h : RF I J I' J') (g : RF I' J' I'' J'') : RF I J I'' J'' := ⟨fun x a => (g.1 x a).trans (h.1 x a), fun j hj => (g.2.1 j hj).trans (h.2.1 j hj), fun x a => (g.2.2.1 x a).trans (h.2.2.1 x a), fun x a => (g.2.2.2 x a).trans (h.2.2.2 x a)⟩
theorem RF.i {I : Nat → Nat → Int32} {J : Nat → Nat → Int64} {j : Nat} {v : Int32} (h : 10 ≤ j ∧ j ≤ 14) : RF I J (st2 I 224 j v) J := ⟨fun x hx => st2_nb hx, fun k hk => st2_nk (by omega), fun _ _ => rfl, fun _ _ => rfl⟩
theorem RF.j {I : Nat → Nat → Int32} {J : Nat → Nat → Int64} {v : Int64} : RF I J I (st2 J 224 17 v) := ⟨fun _ _ => rfl, fun _ _ => rfl, fun x hx => st2_nb hx, fun k hk => st2_nk hk⟩
theorem RB.mv {I I' : Nat → Nat → Int32} {J J' : Nat → Nat → Int64} {b : Nat → Nat} {n : Nat} (h : RB I b n) (f : RF I J I' J') : RB I' b n := ⟨h.1, by rw [f.2.1 9 (by omega)]; exact h.2.1, fun i hi => ⟨(h.2.2 i hi).1, by rw [f.1 227 (by decide)]; exact (h.2.2 i hi).2⟩⟩
theorem byS_and : ∀ x, x < 256 → byS x &&& 255 = zn x := by decide +kernel
section
variable {β : Type} {kw : Nat → Int64} {K : List (Nat × Nat)} {I I' : Nat → Nat → Int32} {J J' : Nat → Nat → Int64} {A : Nat → Nat → Option Nat} {w : WD}
variable {b : Nat → Nat} {n t : Nat}
theorem while0 {bd : Mo β → Mo β} {Q : β → Hp → Prop} (Inv : Nat → (Nat → Nat → Int32) → (Nat → Nat → Int64) → Prop)
    (step : ∀ m I J R, Inv m I J → (∀ m' I' J', m' < m → Inv m' I' J' → wp R Q (K, I', J', A)) → wp (bd R) Q (K, I, J, A)) :
    ∀ (n m : Nat) I J, m < n → Inv m I J → wp (lq0 bd n) Q (K, I, J, A) := by
  intro n
  induction n with
  | zero => intro m I J h; omega
  | succ n ih => exact fun m I J h hi => step m I J (lq0 bd n) hi (fun m' I' J' hl hi' => ih m' I' J' (by omega) hi')
def byV (b : Nat → Nat) (n s : Nat) : Int32 := if s < n then zn (b s) else -1
theorem t_byteAt {s : Nat} (hM : MS K A 224) (hB : RB I b n) (hs : s ≤ n) : f_X13_byteAt (some 224) (zn s) (K, I, J, A) = some (byV b n s, (K, I, J, A)) := by
  apply wp_get
  have hn := hB.1
  unfold f_X13_byteAt byV
  refine b_getIv hM.1 hB.2.1 ?_
  by_cases h : s < n
  · refine wp_ifn (ge_f (by omega)) (b_getA hM.1 hM.2.1.2.2.1 (b_ldI hM.2.2.1.2.2.1 (by omega) (by omega) (wp_rt ⟨?_, rfl⟩)))
    have hb := hB.2.2 s h
    show I 227 s &&& 255 = _
    rw [if_pos h, hb.2, byS_and _ hb.1]
  · exact wp_ifp (ge_t (by omega)) (wp_rt ⟨(if_neg h).symm, rfl⟩)
theorem t_isLR {s : Nat} {h : Hp} (hb : ∀ i, i < n → b i < 256) : f_X13_isLetter (byV b n s) h = some (b01 (decide (s < n) && isL (b s)), h) := by
  unfold byV
  by_cases hs : s < n
  · rw [if_pos hs, show decide (s < n) = true from by simp [hs], Bool.true_and]
    exact t_isL (hb s hs)
  · rw [if_neg hs, show decide (s < n) = false from by simp [hs], Bool.false_and]
    unfold f_X13_isLetter
    apply wp_get'
    exact wp_ifp (by decide) (wp_rt ⟨rfl, rfl⟩)
theorem t_isDR {s : Nat} {h : Hp} (hb : ∀ i, i < n → b i < 256) : f_X13_isDigit (byV b n s) h = some (b01 (decide (s < n) && isD (b s)), h) := by
  unfold byV
  by_cases hs : s < n
  · rw [if_pos hs, show decide (s < n) = true from by simp [hs], Bool.true_and]
    exact t_isD (hb s hs)
  · rw [if_neg hs, show decide (s < n) = false from by simp [hs], Bool.false_and]
    unfold f_X13_isDigit
    apply wp_get'
    exact wp_ifp (by decide) (wp_rt ⟨rfl, rfl⟩)
theorem wd_step (w : Int64) (c : Int32) : (32 : Int64) * w + ((c - 97) + 1).toInt64 = w * 32 + ((c - 97) + 1).toInt64 := by rw [Int64.mul_comm]
theorem nm_step (v c : Int32) : ((10 : Int32) * v + c) - 48 = v * 10 + (c - 48) := by rw [Int32.mul_comm, Int32.sub_eq_add_neg, Int32.add_assoc, ← Int32.sub_eq_add_neg]
/-- a word -/
theorem t_goWord {Q : Unit → Hp → Prop} {j : Nat} (hM : MS K A 224) (hB : RB I b n) (hj : j < n) (h10 : I 224 10 = zn j) (h17 : J 224 17 = 0) (h11 : I 224 11 = 0)
    (q : ∀ I' J', RF I J I' J' → I' 224 12 = I 224 12 → I' 224 10 = zn (run isL b n j) → (run isL b n j - j ≤ 8 → I' 224 11 = 2 ∧ J' 224 17 = wvF b j (run isL b n j - j)) → (8 < run isL b n j - j → I' 224 11 = 0) → Q () (K, I', J', A)) : wp (f_X13_goesOn_l89 (some 224) 0) Q (K, I, J, A) := by
  have hn := hB.1
  have hb : ∀ i, i < n → b i < 256 := fun i hi => (hB.2.2 i hi).1
  unfold f_X13_goesOn_l89
  refine while1 (fun m y I' J' => ∃ k, y = zn k ∧ m = n - (j + k) ∧ j + k ≤ n ∧ run isL b n j = run isL b n (j + k) ∧ RF I J I' J' ∧ I' 224 12 = I 224 12 ∧ I' 224 11 = 0 ∧ I' 224 10 = zn (j + k) ∧ J' 224 17 = wvF b j (if k < 8 then k else 8)) ?_ fuel (n - j) _ _ _ (by unfold fuel; omega) ⟨0, rfl, rfl, by omega, rfl, RF.rfl', rfl, h11, h10, h17⟩
  rintro m y I' J' R ⟨k, rfl, rfl, hk, hrun, hF, h12, h11', h10', h17'⟩ hR
  unfold f_X13_goesOn_b89
  have hB' := hB.mv hF
  refine b_getIv hM.1 h10' (b_ck hM.1 (b_eq (t_byteAt hM hB' hk) (b_eq (t_isLR hb) ?_)))
  cases hl : (decide (j + k < n) && isL (b (j + k))) with
  | false =>
    have hd : run isL b n j = j + k := by
      rw [hrun, run_no (fun q => ?_)]
      rw [show (decide (j + k < n) && isL (b (j + k))) = true from by simp [q.1, q.2]] at hl
      exact absurd hl (by decide)
    rw [hd, Nat.add_sub_cancel_left] at q
    refine wp_ifp (by decide) ?_
    by_cases h8 : 8 < k
    · exact wp_ifp (gt_t (b := 8) (by omega)) (wp_rt (q I' J' hF h12 h10' (fun h => by omega) (fun _ => h11')))
    · refine wp_ifn (gt_f (b := 8) (by omega)) (b_putI hM.1 (by decide) (wp_rt (q _ _ (hF.trans (RF.i (by omega))) ((st2_nk (by decide)).trans h12) ((st2_nk (by decide)).trans h10') (fun _ => ⟨st2_at, ?_⟩) (fun h => by omega))))
      rw [h17']
      by_cases h : k < 8
      · rw [if_pos h]
      · rw [if_neg h, show k = 8 by omega]
  | true =>
    simp only [Bool.and_eq_true, decide_eq_true_eq] at hl
    refine wp_ifn (by decide) ?_
    have go : ∀ I2 J2, RF I J I2 J2 → I2 224 12 = I 224 12 → I2 224 11 = 0 → I2 224 10 = zn (j + k) → J2 224 17 = wvF b j (if k + 1 < 8 then k + 1 else 8) → wp (f_X13_goesOn_j136 R (some 224) (zn k)) Q (K, I2, J2, A) := by
      intro I2 J2 hF2 g12 g11 g10 g17
      unfold f_X13_goesOn_j136
      refine b_getIv hM.1 g10 (b_putI hM.1 (by decide) ?_)
      rw [zn_succ, zn_succ]
      exact hR (n - (j + (k + 1))) _ _ _ (by omega) ⟨k + 1, rfl, rfl, by omega, by rw [hrun, run_go hl]; rfl, hF2.trans (RF.i (by omega)), (st2_nk (by decide)).trans g12, (st2_nk (by decide)).trans g11, st2_at, g17⟩
    by_cases h8 : 8 ≤ k
    · refine wp_ifp (ge_t (b := 8) (by omega)) (go _ _ hF h12 h11' h10' ?_)
      rw [h17', if_neg (by omega), if_neg (by omega)]
    · rw [if_pos (by omega)] at h17'
      refine wp_ifn (ge_f (b := 8) (by omega)) (b_getJv hM.1 h17' (b_getIv hM.1 h10' (b_ck hM.1 (b_eq (t_byteAt hM hB' hk) (b_putJ hM.1 (by decide) (go _ _ (hF.trans RF.j) h12 h11' h10' ?_))))))
      rw [st2_at, wd_step, show (if k + 1 < 8 then k + 1 else 8) = k + 1 by split <;> omega]
      unfold byV
      rw [if_pos hl.1]
      rfl
/-- a whole number -/
theorem t_goWhole {Q : Unit → Hp → Prop} {j : Nat} (hM : MS K A 224) (hB : RB I b n) (hj : j < n) (h10 : I 224 10 = zn j) (h14 : I 224 14 = 0) (h11 : I 224 11 = 0)
    (q : ∀ I' J', RF I J I' J' → I' 224 12 = I 224 12 → I' 224 10 = zn (run isD b n j) → (run isD b n j - j ≤ 3 → I' 224 11 = 3 ∧ I' 224 14 = nvF b j (run isD b n j - j)) → (3 < run isD b n j - j → I' 224 11 = 0) → Q () (K, I', J', A)) : wp (f_X13_goesOn_l178 (some 224) 0) Q (K, I, J, A) := by
  have hn := hB.1
  have hb : ∀ i, i < n → b i < 256 := fun i hi => (hB.2.2 i hi).1
  unfold f_X13_goesOn_l178
  refine while1 (fun m y I' J' => ∃ k, y = zn k ∧ m = n - (j + k) ∧ j + k ≤ n ∧ run isD b n j = run isD b n (j + k) ∧ RF I J I' J' ∧ I' 224 12 = I 224 12 ∧ I' 224 11 = 0 ∧ I' 224 10 = zn (j + k) ∧ I' 224 14 = nvF b j (if k < 3 then k else 3)) ?_ fuel (n - j) _ _ _ (by unfold fuel; omega) ⟨0, rfl, rfl, by omega, rfl, RF.rfl', rfl, h11, h10, h14⟩
  rintro m y I' J' R ⟨k, rfl, rfl, hk, hrun, hF, h12, h11', h10', h14'⟩ hR
  unfold f_X13_goesOn_b178
  have hB' := hB.mv hF
  refine b_getIv hM.1 h10' (b_ck hM.1 (b_eq (t_byteAt hM hB' hk) (b_eq (t_isDR hb) ?_)))
  cases hl : (decide (j + k < n) && isD (b (j + k))) with
  | false =>
    have hd : run isD b n j = j + k := by
      rw [hrun, run_no (fun q => ?_)]
      rw [show (decide (j + k < n) && isD (b (j + k))) = true from by simp [q.1, q.2]] at hl
      exact absurd hl (by decide)
    rw [hd, Nat.add_sub_cancel_left] at q
    refine wp_ifp (by decide) ?_
    by_cases h8 : 3 < k
    · exact wp_ifp (gt_t (b := 3) (by omega)) (wp_rt (q I' J' hF h12 h10' (fun h => by omega) (fun _ => h11')))
    · refine wp_ifn (gt_f (b := 3) (by omega)) (b_putI hM.1 (by decide) (wp_rt (q _ _ (hF.trans (RF.i (by omega))) ((st2_nk (by decide)).trans h12) ((st2_nk (by decide)).trans h10') (fun _ => ⟨st2_at, (st2_nk (by decide)).trans ?_⟩) (fun h => by omega))))
      rw [h14']
      by_cases h : k < 3
      · rw [if_pos h]
      · rw [if_neg h, show k = 3 by omega]
  | true =>
    simp only [Bool.and_eq_true, decide_eq_true_eq] at hl
    refine wp_ifn (by decide) ?_
    have go : ∀ I2 J2, RF I J I2 J2 → I2 224 12 = I 224 12 → I2 224 11 = 0 → I2 224 10 = zn (j + k) → I2 224 14 = nvF b j (if k + 1 < 3 then k + 1 else 3) → wp (f_X13_goesOn_j220 R (some 224) (zn k)) Q (K, I2, J2, A) := by
      intro I2 J2 hF2 g12 g11 g10 g14
      unfold f_X13_goesOn_j220
      refine b_getIv hM.1 g10 (b_putI hM.1 (by decide) ?_)
      rw [zn_succ, zn_succ]
      exact hR (n - (j + (k + 1))) _ _ _ (by omega) ⟨k + 1, rfl, rfl, by omega, by rw [hrun, run_go hl]; rfl, hF2.trans (RF.i (by omega)), (st2_nk (by decide)).trans g12, (st2_nk (by decide)).trans g11, st2_at, (st2_nk (by decide)).trans g14⟩
    by_cases h8 : 3 ≤ k
    · refine wp_ifp (ge_t (b := 3) (by omega)) (go _ _ hF h12 h11' h10' ?_)
      rw [h14', if_neg (by omega), if_neg (by omega)]
    · rw [if_pos (by omega)] at h14'
      refine wp_ifn (ge_f (b := 3) (by omega)) (b_getIv hM.1 h14' (b_getIv hM.1 h10' (b_ck hM.1 (b_eq (t_byteAt hM hB' hk) (b_putI hM.1 (by decide) (go _ _ (hF.trans (RF.i (by omega))) ((st2_nk (by decide)).trans h12) ((st2_nk (by decide)).trans h11') ((st2_nk (by decide)).trans h10') ?_))))))
      rw [st2_at, nm_step, show (if k + 1 < 3 then k + 1 else 3) = k + 1 by split <;> omega]
      unfold byV
      rw [if_pos hl.1]
      rfl
end
