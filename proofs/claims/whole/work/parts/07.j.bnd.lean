/-! ===== sums of Jacobi are small; units ===== -/
def bw (B : Int) (w : Nat → Int64) : Prop := ∀ i, -B ≤ (w i).toInt ∧ (w i).toInt ≤ B
theorem lst_tri : ∀ n, n < 13 → ∀ j, j < 11 → lst n j = 0 ∨ lst n j = 1 ∨ lst n j = -1 := by decide
theorem i64_sub_b {x y : Int64} {B C : Int} (hx : -B ≤ x.toInt ∧ x.toInt ≤ B) (hy : -C ≤ y.toInt ∧ y.toInt ≤ C) (hB : 0 ≤ B ∧ B ≤ 1000000000000) (hC : 0 ≤ C ∧ C ≤ 1000000000000) : -(B + C) ≤ (x - y).toInt ∧ (x - y).toInt ≤ B + C := by
  rw [← zj_self x, ← zj_self y, zj_sub, zj_toInt] <;> omega
theorem i64_mul3 {x l : Int64} {B : Int} (hx : -B ≤ x.toInt ∧ x.toInt ≤ B) (hB : 0 ≤ B ∧ B ≤ 1000000000000) (hl : l = 0 ∨ l = 1 ∨ l = -1) : -B ≤ (x * l).toInt ∧ (x * l).toInt ≤ B := by
  rcases hl with rfl | rfl | rfl
  · rw [Int64.mul_zero, show (0 : Int64).toInt = 0 from rfl]; omega
  · rw [Int64.mul_one]; exact hx
  · rw [show (-1 : Int64) = zj (-1) from rfl, ← zj_self x, zj_mul, zj_toInt] <;> omega
theorem stI_bw {n base : Nat} {much : Int64} {w : Nat → Int64} {B : Int} (hn : n < 13) (hB : 0 ≤ B ∧ B ≤ 100000000000) (hw : bw B w) (hm : -B ≤ much.toInt ∧ much.toInt ≤ B) {k : Nat} (hk : k ≤ 11) : bw (B + B) (stI n much base w k) := by
  intro i
  by_cases h : i < base ∨ base + k ≤ i
  · rw [stI_out k i h]
    have := hw i
    omega
  · have e : i = base + (i - base) := by omega
    rw [e, stI_in k (i - base) (by omega)]
    exact i64_sub_b (hw _) (i64_mul3 hm (by omega) (lst_tri n hn _ (by omega))) (by omega) (by omega)
def b2 : Nat → Int
  | 0 => 199
  | m + 1 => b2 m + b2 m
theorem b2_le : ∀ m, m ≤ 12 → 0 ≤ b2 m ∧ b2 m ≤ 815104 := by decide
theorem b2_le12 : ∀ m, m ≤ 12 → 0 ≤ b2 m := fun m h => (b2_le m h).1
theorem stH_bw {n : Nat} {w : Nat → Int64} (h1 : 2 ≤ n) (h2 : n ≤ 12) (hw : bw 199 w) : ∀ m, m ≤ 12 → bw (b2 m) (stH n w m) := by
  intro m
  induction m with
  | zero => intro _; exact hw
  | succ m ih =>
    intro hm
    have hb := b2_le m (by omega)
    have hp := phi_rng h1 h2
    exact stI_bw (by omega) (by omega) (ih (by omega)) (ih (by omega) _) (by omega)
theorem res_bw {n : Nat} {w : Nat → Int64} (h1 : 2 ≤ n) (h2 : n ≤ 12) (hw : bw 199 w) (i : Nat) : -815104 ≤ (res n w i).toInt ∧ (res n w i).toInt ≤ 815104 := by
  unfold res
  split
  · have hb := b2_le (n - phi n) (by omega)
    have := stH_bw h1 h2 hw (n - phi n) (by omega) i
    omega
  · rw [show (0 : Int64).toInt = 0 from rfl]; omega
theorem jaO_bw {p n a b : Nat} : ∀ x, x ≤ 199 → ∀ i, 0 ≤ (jaO p n a b x i).toInt ∧ (jaO p n a b x i).toInt ≤ x := by
  intro x
  induction x with
  | zero => intro _ i; show 0 ≤ (0 : Int64).toInt ∧ (0 : Int64).toInt ≤ _; rw [show (0 : Int64).toInt = 0 from rfl]; omega
  | succ x ih =>
    intro hx i
    have ih' := ih (by omega)
    show 0 ≤ (jaS p n a b x (jaO p n a b x) i).toInt ∧ (jaS p n a b x (jaO p n a b x) i).toInt ≤ ((x + 1 : Nat) : Int)
    have h0 := ih' i
    cases hu : chi p n a x with
    | none => unfold jaS; rw [hu]; show 0 ≤ (jaO p n a b x i).toInt ∧ (jaO p n a b x i).toInt ≤ _; omega
    | some u =>
      cases hv : chi p n b ((p + 1 - x) % p) with
      | none => unfold jaS; rw [hu, hv]; show 0 ≤ (jaO p n a b x i).toInt ∧ (jaO p n a b x i).toInt ≤ _; omega
      | some v =>
        unfold jaS
        rw [hu, hv]
        show 0 ≤ (setf _ _ _ i).toInt ∧ (setf _ _ _ i).toInt ≤ _
        by_cases h : i = (u + v) % n
        · subst h
          rw [setf_at]
          have := ih' ((u + v) % n)
          rw [← zj_self (jaO p n a b x ((u + v) % n)), show (1 : Int64) = zj 1 from rfl, zj_add, zj_toInt] <;> omega
        · rw [setf_ne h]
          omega
theorem jac_bw {p n a b : Nat} (hpn : pn p n) (i : Nat) : -815104 ≤ (jac p n a b i).toInt ∧ (jac p n a b i).toInt ≤ 815104 := by
  have hr := pn_rng hpn
  refine res_bw hr.2.2.1 hr.2.2.2 (fun i => ?_) i
  have := jaO_bw (p := p) (n := n) (a := a) (b := b) p hr.2.1 i
  omega
theorem far_iff {x : Int64} : far x = false ↔ -100000000 ≤ x.toInt ∧ x.toInt ≤ 100000000 := by
  unfold far
  rw [Bool.or_eq_false_iff, decide_eq_false_iff_not, decide_eq_false_iff_not]
  show ¬ (100000000 : Int64) < x ∧ ¬ x < -100000000 ↔ _
  rw [Int64.lt_iff_toInt_lt, Int64.lt_iff_toInt_lt, show (100000000 : Int64).toInt = 100000000 from rfl, show (-100000000 : Int64).toInt = -100000000 from rfl]
  omega
theorem hug_bnd {N : Nat} {f : Nat → Int64} (h : hug N f = false) : ∀ i, i < N → -100000000 ≤ (f i).toInt ∧ (f i).toInt ≤ 100000000 := fun i hi => far_iff.mp (hug_iff.mp h i hi)
theorem hug_small {N : Nat} {f : Nat → Int64} (h : ∀ i, i < N → -100000000 ≤ (f i).toInt ∧ (f i).toInt ≤ 100000000) : hug N f = false := hug_f (fun i hi => far_iff.mpr (h i hi))
theorem jac_hug {p n a b : Nat} (hpn : pn p n) (N : Nat) : hug N (jac p n a b) = false := hug_small (fun i _ => by have := jac_bw (a := a) (b := b) hpn i; omega)
theorem hug_congr {N : Nat} {f g : Nat → Int64} (h : ∀ i, i < N → f i = g i) : hug N f = hug N g := by
  cases hg : hug N g with
  | false => rw [hug_iff] at hg ⊢; intro i hi; rw [h i hi]; exact hg i hi
  | true =>
    cases hf : hug N f with
    | true => rfl
    | false =>
      rw [hug_iff] at hf
      have : hug N g = false := hug_iff.mpr (fun i hi => by rw [← h i hi]; exact hf i hi)
      rw [this] at hg; cases hg
/-- rows that are 0 from 10 on -/
theorem hug_12 {f : Nat → Int64} (h : f 10 = 0 ∧ f 11 = 0) : hug 12 f = hug 10 f := by
  cases hg : hug 10 f with
  | false =>
    rw [hug_iff] at hg ⊢
    intro i hi
    by_cases h1 : i < 10
    · exact hg i h1
    · have : i = 10 ∨ i = 11 := by omega
      rcases this with rfl | rfl
      · rw [h.1]; decide
      · rw [h.2]; decide
  | true =>
    cases hf : hug 12 f with
    | true => rfl
    | false =>
      rw [hug_iff] at hf
      have : hug 10 f = false := hug_iff.mpr (fun i hi => hf i (by omega))
      rw [this] at hg; cases hg
theorem who_iff {N : Nat} {f : Nat → Int64} : who N f = true ↔ ∀ i, 1 ≤ i → i < N → f i = 0 := by
  constructor
  · intro h i
    induction i using Nat.strongRecOn with
    | _ i ih =>
      intro h1 hi
      apply Classical.byContradiction
      intro hf
      rw [who_f h1 hi hf (fun j h2 hj => ih j hj h2 (by omega))] at h
      cases h
  · exact who_t
theorem who_12 {f g : Nat → Int64} (h : ∀ i, i < 10 → f i = g i) (h2 : g 10 = 0 ∧ g 11 = 0) : who 10 f = who 12 g := by
  apply Bool.eq_iff_iff.mpr
  rw [who_iff, who_iff]
  constructor
  · intro h3 i h4 h5
    by_cases h1 : i < 10
    · rw [← h i h1]; exact h3 i h4 h1
    · have : i = 10 ∨ i = 11 := by omega
      rcases this with rfl | rfl
      · exact h2.1
      · exact h2.2
  · intro h3 i h4 h5
    rw [h i h5]; exact h3 i h4 (by omega)
theorem sam_iff {N : Nat} {f g : Nat → Int64} : sam N f g = true ↔ ∀ i, i < N → f i = g i := by
  constructor
  · intro h i
    induction i using Nat.strongRecOn with
    | _ i ih =>
      intro hi
      apply Classical.byContradiction
      intro hf
      rw [sam_f hi hf (fun j hj => ih j hj (by omega))] at h
      cases h
  · exact sam_t
theorem res_10 {n : Nat} {w : Nat → Int64} (h1 : 2 ≤ n) (h2 : n ≤ 12) : res n w 10 = 0 ∧ res n w 11 = 0 := by
  have := phi_rng h1 h2
  exact ⟨res_hi (by omega), res_hi (by omega)⟩
/-! units -/
def wu (c : Int64) : Nat → Int64 := fun i => if i = 0 then c else 0
theorem stH_flat {n : Nat} {w : Nat → Int64} (h1 : 2 ≤ n) (h2 : n ≤ 12) (hw : ∀ i, phi n ≤ i → w i = 0) : ∀ m, m ≤ n - phi n → stH n w m = w := by
  have hp := phi_rng h1 h2
  intro m
  induction m with
  | zero => intro _; rfl
  | succ m ih =>
    intro hm
    show stI n (stH n w m (n - 1 - m)) _ (stH n w m) _ = w
    rw [ih (by omega), hw _ (by omega), stI_zero]
theorem res_flat {n : Nat} {w : Nat → Int64} (h1 : 2 ≤ n) (h2 : n ≤ 12) (hw : ∀ i, phi n ≤ i → w i = 0) : res n w = w := by
  funext i
  unfold res
  rw [stH_flat h1 h2 hw _ (Nat.le_refl _)]
  split
  · rfl
  · exact (hw i (by omega)).symm
theorem muI_zero {n i : Nat} {y : Nat → Int64} {w : Nat → Int64} : ∀ j, muI n 0 y i w j = w := by
  intro j
  induction j with
  | zero => rfl
  | succ j ih =>
    show adw (muI n 0 y i w j) _ _ = w
    rw [ih]
    unfold adw
    funext k
    by_cases h : k = (i + j) % n
    · rw [h, setf_at, Int64.zero_mul, Int64.add_zero]
    · rw [setf_ne h]
theorem muI_first {n : Nat} {c : Int64} {y : Nat → Int64} : ∀ j, j ≤ n → muI n c y 0 wz j = fun k => if k < j then c * y k else 0 := by
  intro j
  induction j with
  | zero => intro _; funext k; rw [if_neg (by omega)]; rfl
  | succ j ih =>
    intro hj
    show adw (muI n c y 0 wz j) _ _ = _
    rw [ih (by omega)]
    unfold adw
    rw [Nat.zero_add, Nat.mod_eq_of_lt (by omega)]
    funext k
    by_cases h : k = j
    · rw [h, setf_at]
      dsimp only
      rw [if_neg (Nat.lt_irrefl j), if_pos (Nat.lt_succ_self j), Int64.zero_add]
    · rw [setf_ne h]
      by_cases h3 : k < j
      · rw [if_pos h3, if_pos (by omega)]
      · rw [if_neg h3, if_neg (by omega)]
theorem mul_wu {n : Nat} {c : Int64} {y : Nat → Int64} (h1 : 2 ≤ n) (h2 : n ≤ 12) : mul n (wu c) y = fun k => if k < phi n then c * y k else 0 := by
  have hp := phi_rng h1 h2
  have key : ∀ i, 1 ≤ i → muO n (wu c) y i = fun k => if k < phi n then c * y k else 0 := by
    intro i
    induction i with
    | zero => intro h; omega
    | succ i ih =>
      intro _
      show muI n (wu c i) y i (muO n (wu c) y i) (phi n) = _
      by_cases h : i = 0
      · subst h
        exact muI_first _ (by omega)
      · rw [ih (by omega), show wu c i = 0 from if_neg h, muI_zero]
  unfold mul
  rw [key _ hp.1, res_flat h1 h2 (fun i hi => if_neg (by omega))]
/-- the row of a power of z that is 1 or -1 -/
theorem half_tab : (List.range 13).all (fun n => decide (n < 2) || !(n % 2 == 0) || (List.range 12).all (fun i => res n (setf wz (n / 2) 1) i == wu (-1) i)) = true := by decide +kernel
theorem half_row {n : Nat} (h1 : 2 ≤ n) (h2 : n ≤ 12) (he : n % 2 = 0) : ∀ i, i < 12 → res n (setf wz (n / 2) 1) i = wu (-1) i := by
  intro i hi
  have := List.all_eq_true.mp half_tab n (List.mem_range.mpr (by omega))
  simp only [Bool.or_eq_true, decide_eq_true_eq, Bool.not_eq_true', he] at this
  rcases this with (h | h) | h
  · omega
  · cases h
  · exact beq_iff_eq.mp (List.all_eq_true.mp h i (List.mem_range.mpr hi))
theorem zero_row {n : Nat} (h1 : 2 ≤ n) (h2 : n ≤ 12) : res n (setf wz 0 1) = wu 1 := by
  have hp := phi_rng h1 h2
  have e : setf wz 0 1 = wu 1 := by
    funext i
    by_cases h : i = 0
    · subst h; rfl
    · rw [setf_ne h]; unfold wu wz; rw [if_neg h]
  rw [e]
  exact res_flat h1 h2 (fun i hi => if_neg (by omega))
theorem lg_half : pl.all (fun p => lg p (p - 1) == (p - 1) / 2) = true := by decide +kernel
theorem half_e : pl.all (fun p => (List.range 13).all (fun n => decide (n < 2) || !((p - 1) % n == 0) || (List.range n).all (fun a => a * ((p - 1) / 2) % n == 0 || (n % 2 == 0 && a * ((p - 1) / 2) % n == n / 2)))) = true := by decide +kernel
theorem minus_one {p n a : Nat} (hpn : pn p n) (ha : a < n) : chi p n a (p - 1) = some 0 ∨ (n % 2 = 0 ∧ chi p n a (p - 1) = some (n / 2)) := by
  have hr := pn_rng hpn
  have h1 := beq_iff_eq.mp (List.all_eq_true.mp lg_half p hpn.1)
  have h2 := List.all_eq_true.mp (List.all_eq_true.mp half_e p hpn.1) n (List.mem_range.mpr (by omega))
  simp only [Bool.or_eq_true, decide_eq_true_eq, Bool.not_eq_true', List.all_eq_true, List.mem_range, beq_iff_eq, Bool.and_eq_true, hpn.2.2.2] at h2
  unfold chi
  rw [if_neg (by omega), h1]
  rcases h2 with (h | h) | h
  · omega
  · simp at h
  · rcases h a ha with q | q
    · exact Or.inl (congrArg some q)
    · exact Or.inr ⟨q.1, congrArg some q.2⟩
