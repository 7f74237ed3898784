/-! ===== rows of a ring: what both reckon ===== -/
def phiL : List Nat := [0, 1, 1, 2, 2, 4, 2, 6, 4, 6, 4, 10, 4]
def phi (n : Nat) : Nat := phiL.getD n 0
theorem phi_tab : ∀ n, n < 13 → lenL.getD n 0 = zn (phi n) ∧ (2 ≤ n → 1 ≤ phi n ∧ phi n ≤ 10 ∧ phi n < n) := by decide
theorem phi_rng {n : Nat} (h1 : 2 ≤ n) (h2 : n ≤ 12) : 1 ≤ phi n ∧ phi n ≤ 10 ∧ phi n < n := (phi_tab n (by omega)).2 h1
def lst (n i : Nat) : Int64 := (leastL.getD (n * 11 + i) 0).toInt64
theorem lst_top : ∀ n, n < 13 → 2 ≤ n → lst n (phi n) = 1 := by decide
def setf (w : Nat → Int64) (e : Nat) (v : Int64) : Nat → Int64 := fun i => if i = e then v else w i
theorem setf_at {w : Nat → Int64} {e : Nat} {v : Int64} : setf w e v e = v := if_pos rfl
theorem setf_ne {w : Nat → Int64} {e i : Nat} {v : Int64} (h : i ≠ e) : setf w e v i = w i := if_neg h
def stI (n : Nat) (much : Int64) (base : Nat) (w : Nat → Int64) : Nat → (Nat → Int64)
  | 0 => w
  | k + 1 => setf (stI n much base w k) (base + k) (stI n much base w k (base + k) - much * lst n k)
def stH (n : Nat) (w : Nat → Int64) : Nat → (Nat → Int64)
  | 0 => w
  | m + 1 => stI n (stH n w m (n - 1 - m)) (n - 1 - m - phi n) (stH n w m) (phi n + 1)
def res (n : Nat) (w : Nat → Int64) : Nat → Int64 := fun i => if i < phi n then stH n w (n - phi n) i else 0
theorem stI_out {n : Nat} {much : Int64} {base : Nat} {w : Nat → Int64} : ∀ k i, (i < base ∨ base + k ≤ i) → stI n much base w k i = w i := by
  intro k
  induction k with
  | zero => intro i _; rfl
  | succ k ih =>
    intro i hi
    show setf _ _ _ i = _
    rw [setf_ne (by omega)]
    exact ih i (by omega)
theorem stI_in {n : Nat} {much : Int64} {base : Nat} {w : Nat → Int64} : ∀ k j, j < k → stI n much base w k (base + j) = w (base + j) - much * lst n j := by
  intro k
  induction k with
  | zero => intro j h; omega
  | succ k ih =>
    intro j hj
    show setf _ _ _ (base + j) = _
    by_cases h : j = k
    · subst h; rw [setf_at, stI_out j _ (by omega)]
    · rw [setf_ne (by omega)]; exact ih j (by omega)
theorem stH_top {n : Nat} {w : Nat → Int64} (h1 : 2 ≤ n) (h2 : n ≤ 12) (hw : ∀ i, n ≤ i → i < 12 → w i = 0) : ∀ m, m ≤ n - phi n → ∀ i, n - m ≤ i → i < 12 → stH n w m i = 0 := by
  obtain ⟨p1, p2, p3⟩ := phi_rng h1 h2
  intro m
  induction m with
  | zero => intro _ i h3 h4; exact hw i (by omega) h4
  | succ m ih =>
    intro hm i h3 h4
    show stI n (stH n w m (n - 1 - m)) (n - 1 - m - phi n) (stH n w m) (phi n + 1) i = 0
    by_cases hi : i = n - 1 - m
    · have e : i = (n - 1 - m - phi n) + phi n := by omega
      rw [e, stI_in _ _ (by omega), lst_top n (by omega) h1, ← e, hi, Int64.mul_one, Int64.sub_self]
    · rw [stI_out _ _ (by omega)]
      exact ih (by omega) i (by omega) h4
theorem res_eq {n : Nat} {w : Nat → Int64} (h1 : 2 ≤ n) (h2 : n ≤ 12) (hw : ∀ i, n ≤ i → i < 12 → w i = 0) {i : Nat} (hi : i < 12) : stH n w (n - phi n) i = res n w i := by
  obtain ⟨p1, p2, p3⟩ := phi_rng h1 h2
  unfold res
  by_cases h : i < phi n
  · rw [if_pos h]
  · rw [if_neg h]; exact stH_top h1 h2 hw _ (Nat.le_refl _) i (by omega) hi
def wz : Nat → Int64 := fun _ => 0
def adw (w : Nat → Int64) (e : Nat) (v : Int64) : Nat → Int64 := setf w e (w e + v)
/-- all above n stays 0 -/
def Lown (n : Nat) (w : Nat → Int64) : Prop := ∀ i, n ≤ i → w i = 0
theorem Lown.adw {n : Nat} {w : Nat → Int64} (h : Lown n w) {e : Nat} (he : e < n) (v : Int64) : Lown n (adw w e v) := fun i hi => by
  show setf _ _ _ i = 0
  rw [setf_ne (by omega)]; exact h i hi
def muI (n : Nat) (x : Int64) (y : Nat → Int64) (i : Nat) (w : Nat → Int64) : Nat → (Nat → Int64)
  | 0 => w
  | j + 1 => adw (muI n x y i w j) ((i + j) % n) (x * y j)
def muO (n : Nat) (x y : Nat → Int64) : Nat → (Nat → Int64)
  | 0 => wz
  | i + 1 => muI n (x i) y i (muO n x y i) (phi n)
def mul (n : Nat) (x y : Nat → Int64) : Nat → Int64 := res n (muO n x y (phi n))
def tuO (n t : Nat) (x : Nat → Int64) : Nat → (Nat → Int64)
  | 0 => wz
  | i + 1 => adw (tuO n t x i) (i * t % n) (x i)
def tun (n t : Nat) (x : Nat → Int64) : Nat → Int64 := res n (tuO n t x (phi n))
def zpw (n e : Nat) : Nat → Int64 := res n (adw wz (e % n) 1)
def chi (p n a x : Nat) : Option Nat := if x = 0 then (if a = 0 then some 0 else none) else some (a * lg p x % n)
def jaS (p n a b : Nat) (x : Nat) (w : Nat → Int64) : Nat → Int64 := match chi p n a x, chi p n b ((p + 1 - x) % p) with
  | some u, some v => adw w ((u + v) % n) 1
  | _, _ => w
def jaO (p n a b : Nat) : Nat → (Nat → Int64)
  | 0 => wz
  | x + 1 => jaS p n a b x (jaO p n a b x)
def jac (p n a b : Nat) : Nat → Int64 := res n (jaO p n a b p)
theorem muI_low {n : Nat} {x : Int64} {y : Nat → Int64} {i : Nat} {w : Nat → Int64} (hn : 0 < n) (h : Lown n w) : ∀ j, Lown n (muI n x y i w j) := by
  intro j
  induction j with
  | zero => exact h
  | succ j ih => exact ih.adw (Nat.mod_lt _ hn) _
theorem wz_low {n : Nat} : Lown n wz := fun _ _ => rfl
theorem muO_low {n : Nat} {x y : Nat → Int64} (hn : 0 < n) : ∀ i, Lown n (muO n x y i) := by
  intro i
  induction i with
  | zero => exact wz_low
  | succ i ih => exact muI_low hn ih _
theorem tuO_low {n t : Nat} {x : Nat → Int64} (hn : 0 < n) : ∀ i, Lown n (tuO n t x i) := by
  intro i
  induction i with
  | zero => exact wz_low
  | succ i ih => exact ih.adw (Nat.mod_lt _ hn) _
theorem jaS_low {p n a b x : Nat} {w : Nat → Int64} (hn : 0 < n) (h : Lown n w) : Lown n (jaS p n a b x w) := by
  unfold jaS
  split
  · exact h.adw (Nat.mod_lt _ hn) _
  · exact h
theorem jaO_low {p n a b : Nat} (hn : 0 < n) : ∀ x, Lown n (jaO p n a b x) := by
  intro x
  induction x with
  | zero => exact wz_low
  | succ x ih => exact jaS_low hn ih
theorem muI_congr {n : Nat} {x : Int64} {y y' : Nat → Int64} {i : Nat} {w : Nat → Int64} : ∀ j, (∀ k, k < j → y k = y' k) → muI n x y i w j = muI n x y' i w j := by
  intro j
  induction j with
  | zero => intro _; rfl
  | succ j ih =>
    intro h
    show adw _ _ _ = adw _ _ _
    rw [ih (fun k hk => h k (by omega)), h j (by omega)]
theorem muO_congr {n : Nat} {x x' y y' : Nat → Int64} (hy : ∀ k, k < phi n → y k = y' k) : ∀ i, (∀ k, k < i → x k = x' k) → muO n x y i = muO n x' y' i := by
  intro i
  induction i with
  | zero => intro _; rfl
  | succ i ih =>
    intro h
    show muI _ _ _ _ _ _ = muI _ _ _ _ _ _
    rw [ih (fun k hk => h k (by omega)), h i (by omega), muI_congr _ hy]
theorem mul_congr {n : Nat} {x x' y y' : Nat → Int64} (hx : ∀ k, k < phi n → x k = x' k) (hy : ∀ k, k < phi n → y k = y' k) : mul n x y = mul n x' y' := by
  unfold mul
  rw [muO_congr hy _ hx]
theorem tuO_congr {n t : Nat} {x x' : Nat → Int64} : ∀ i, (∀ k, k < i → x k = x' k) → tuO n t x i = tuO n t x' i := by
  intro i
  induction i with
  | zero => intro _; rfl
  | succ i ih =>
    intro h
    show adw _ _ _ = adw _ _ _
    rw [ih (fun k hk => h k (by omega)), h i (by omega)]
theorem tun_congr {n t : Nat} {x x' : Nat → Int64} (hx : ∀ k, k < phi n → x k = x' k) : tun n t x = tun n t x' := by
  unfold tun
  rw [tuO_congr _ hx]
theorem res_hi {n : Nat} {w : Nat → Int64} {i : Nat} (h : phi n ≤ i) : res n w i = 0 := if_neg (by omega)
theorem wp_get' {α : Type} {F : Mo α} {h h2 : Hp} {v : α} (w : wp F (fun r h' => r = v ∧ h' = h2) h) : F h = some (v, h2) := by
  obtain ⟨r, h', e, q1, q2⟩ := w
  rw [e, q1, q2]
/-! ===== rows in the class ===== -/
section
variable {β : Type} {K : List (Nat × Nat)} {I : Nat → Nat → Int32} {J : Nat → Nat → Int64} {A : Nat → Nat → Option Nat}
theorem ag_st2 {b e N : Nat} {v v' : Int64} {w : Nat → Int64} (h : ∀ i, i < N → J b i = w i) (hv : v = v') : ∀ i, i < N → st2 J b e v b i = setf w e v' i := by
  intro i hi
  by_cases he : i = e
  · subst he; rw [st2_at, setf_at, hv]
  · rw [st2_nk he, setf_ne he]; exact h i hi
theorem t_setWhole {Q : Unit → Hp → Prop} {a N : Nat} {v : Int64} (hk : kk K a = (2, N)) (ha : 64 ≤ a) (hN : N ≤ 10000) (q : ∀ J', (∀ b, b ≠ a → J' b = J b) → (∀ i, i < N → J' a i = if i = 0 then v else 0) → Q () (K, I, J', A)) : wp (f_X6_setWhole (some a) v) Q (K, I, J, A) := by
  unfold f_X6_setWhole f_X6_setWhole_l2
  refine for1 (N := N) (fun k I' J' => I' = I ∧ (∀ b, b ≠ a → J' b = J b) ∧ ∀ i, i < k → J' a i = if i = 0 then v else 0) ?_ ?_ (k := 0) (by omega) (by unfold fuel; omega) ⟨rfl, fun b _ => rfl, fun i _ => by omega⟩
  · rintro k I' J' R hk' ⟨rfl, hfr, hv⟩ hR
    unfold f_X6_setWhole_b2
    refine wp_ifn (by simp) (b_len hk (by decide) (wp_ifn (ge_f (by omega)) ?_))
    refine wp_ifq (not_congr (zn0 (by omega))) ?_
    have fin : ∀ x : Int64, x = (if k = 0 then v else 0) → wp (mBd (mStJ (some a) (zn k) x) (fun _ => R (zn k + 1))) Q (K, I', J', A) := by
      intro x hx
      refine b_stJ hk ha (by omega) (by omega) (hR _ _ ⟨rfl, fun b hb => ?_, fun i hi => ?_⟩)
      · rw [st2_nb hb]; exact hfr b hb
      · by_cases hik : i = k
        · subst hik; rw [st2_at, hx]
        · rw [st2_nk hik]; exact hv i (by omega)
    by_cases h0 : k = 0
    · exact wp_ifn (fun q => q h0) (fin _ (by rw [if_pos h0]))
    · exact wp_ifp h0 (fin _ (by rw [if_neg h0]))
  · rintro I' J' R ⟨rfl, hfr, hv⟩
    unfold f_X6_setWhole_b2
    exact wp_ifn (by simp) (b_len hk (by decide) (wp_ifp (ge_t (by omega)) (wp_rt (q J' hfr hv))))
theorem t_copy {Q : Unit → Hp → Prop} {s d M N : Nat} (hs : kk K s = (2, M)) (hd : kk K d = (2, N)) (ha : 64 ≤ d) (hN : N ≤ 10000) (hM : M ≤ 10000) (hsd : s ≠ d) (q : ∀ J', (∀ b, b ≠ d → J' b = J b) → (∀ i, i < N → J' d i = if i < M then J s i else 0) → Q () (K, I, J', A)) : wp (f_X6_copy (some s) (some d)) Q (K, I, J, A) := by
  unfold f_X6_copy f_X6_copy_l2
  refine for1 (N := N) (fun k I' J' => I' = I ∧ (∀ b, b ≠ d → J' b = J b) ∧ ∀ i, i < k → J' d i = if i < M then J s i else 0) ?_ ?_ (k := 0) (by omega) (by unfold fuel; omega) ⟨rfl, fun b _ => rfl, fun i _ => by omega⟩
  · rintro k I' J' R hk' ⟨rfl, hfr, hv⟩ hR
    unfold f_X6_copy_b2
    refine wp_ifn (by simp) (b_len hd (by decide) (wp_ifn (ge_f (by omega)) (wp_ifn (by simp) (b_len hs (by decide) ?_))))
    have fin : ∀ x : Int64, x = (if k < M then J s k else 0) → wp (mBd (mStJ (some d) (zn k) x) (fun _ => R (zn k + 1))) Q (K, I', J', A) := by
      intro x hx
      refine b_stJ hd ha (by omega) (by omega) (hR _ _ ⟨rfl, fun b hb => ?_, fun i hi => ?_⟩)
      · rw [st2_nb hb]; exact hfr b hb
      · by_cases hik : i = k
        · subst hik; rw [st2_at, hx]
        · rw [st2_nk hik]; exact hv i (by omega)
    by_cases h : k < M
    · exact wp_ifn (ge_f (by omega)) (b_ldJ hs h (by omega) (fin _ (by rw [if_pos h, hfr s hsd])))
    · exact wp_ifp (ge_t (by omega)) (fin _ (by rw [if_neg h]))
  · rintro I' J' R ⟨rfl, hfr, hv⟩
    unfold f_X6_copy_b2
    exact wp_ifn (by simp) (b_len hd (by decide) (wp_ifp (ge_t (by omega)) (wp_rt (q J' hfr hv))))
theorem t_addTimes {Q : Unit → Hp → Prop} {s d N : Nat} {k : Int64} (hs : kk K s = (2, N)) (hd : kk K d = (2, N)) (ha : 64 ≤ d) (hN : N ≤ 10000) (hsd : s ≠ d) (q : ∀ J', (∀ b, b ≠ d → J' b = J b) → (∀ i, i < N → J' d i = J d i + k * J s i) → Q () (K, I, J', A)) : wp (f_X6_addTimes (some d) (some s) k) Q (K, I, J, A) := by
  unfold f_X6_addTimes f_X6_addTimes_l3
  refine for1 (N := N) (fun m I' J' => I' = I ∧ (∀ b, b ≠ d → J' b = J b) ∧ ∀ i, i < N → J' d i = if i < m then J d i + k * J s i else J d i) ?_ ?_ (k := 0) (by omega) (by unfold fuel; omega) ⟨rfl, fun b _ => rfl, fun i _ => by rw [if_neg (by omega)]⟩
  · rintro m I' J' R hm ⟨rfl, hfr, hv⟩ hR
    unfold f_X6_addTimes_b3
    refine wp_ifn (by simp) (b_len hd (by decide) (wp_ifn (ge_f (by omega)) (b_ldJ hd hm (by omega) (wp_ifn (by simp) (b_len hs (by decide) (wp_ifn (ge_f (by omega)) (b_ldJ hs hm (by omega) ?_)))))))
    refine b_stJ hd ha hm (by omega) (hR _ _ ⟨rfl, fun b hb => ?_, fun i hi => ?_⟩)
    · rw [st2_nb hb]; exact hfr b hb
    · by_cases hik : i = m
      · subst hik; rw [st2_at, if_pos (by omega), hv i hi, if_neg (by omega), hfr s hsd]
      · rw [st2_nk hik, hv i hi]
        by_cases h : i < m
        · rw [if_pos h, if_pos (by omega)]
        · rw [if_neg h, if_neg (by omega)]
  · rintro I' J' R ⟨rfl, hfr, hv⟩
    unfold f_X6_addTimes_b3
    exact wp_ifn (by simp) (b_len hd (by decide) (wp_ifp (ge_t (by omega)) (wp_rt (q J' hfr (fun i hi => by rw [hv i hi, if_pos hi])))))
/-- too great a number in a row -/
def far (x : Int64) : Bool := decide (x > 100000000) || decide (x < -100000000)
def hug (N : Nat) (f : Nat → Int64) : Bool := (fd (fun i => far (f i)) N 0).isSome
theorem hug_t {N i : Nat} {f : Nat → Int64} (hi : i < N) (h : far (f i) = true) (h0 : ∀ j, j < i → far (f j) = false) : hug N f = true := by
  unfold hug
  rw [fd_some (y := i) h N 0 (by omega) (by omega) (fun j _ hj => h0 j hj)]; rfl
theorem hug_f {N : Nat} {f : Nat → Int64} (h : ∀ i, i < N → far (f i) = false) : hug N f = false := by
  unfold hug
  rw [fd_none N 0 (fun i _ hi => h i (by omega))]; rfl
theorem hug_iff {N : Nat} {f : Nat → Int64} : hug N f = false ↔ ∀ i, i < N → far (f i) = false := by
  constructor
  · intro h i
    induction i using Nat.strongRecOn with
    | _ i ih =>
      intro hi
      cases hf : far (f i) with
      | false => rfl
      | true =>
        rw [hug_t hi hf (fun j hj => ih j hj (by omega))] at h
        cases h
  · exact hug_f
theorem i64_ge {x y : Int64} : x ≥ y ↔ ¬ x < y := by
  rw [show x ≥ y ↔ y ≤ x from Iff.rfl, Int64.le_iff_toInt_le, Int64.lt_iff_toInt_lt]; omega
theorem t_isHuge {a N : Nat} (hk : kk K a = (2, N)) (hN : N ≤ 10000) : f_X6_isHuge (some a) (K, I, J, A) = some (zn (if hug N (J a) then 1 else 0), (K, I, J, A)) := by
  apply wp_get
  unfold f_X6_isHuge f_X6_isHuge_l2
  refine pf1 (N := N) (fun k => ∀ i, i < k → far (J a i) = false) ?_ ?_ (k := 0) (by omega) (by unfold fuel; omega) (fun i _ => by omega)
  · rintro k R hk' hv hR
    unfold f_X6_isHuge_b2
    refine wp_ifn (by simp) (b_len hk (by decide) (wp_ifn (ge_f (by omega)) (b_ldJ hk hk' (by omega) ?_)))
    by_cases h1 : J a k > 100000000
    · exact wp_ifp h1 (wp_rt ⟨by rw [hug_t hk' (by unfold far; simp [h1]) hv]; rfl, rfl⟩)
    · refine wp_ifn h1 (b_ldJ hk hk' (by omega) ?_)
      by_cases h2 : J a k < -100000000
      · exact wp_ifn (fun q => i64_ge.mp q h2) (wp_rt ⟨by rw [hug_t hk' (by unfold far; simp [h2]) hv]; rfl, rfl⟩)
      · refine wp_ifp (i64_ge.mpr h2) (hR (fun i hi => ?_))
        by_cases hik : i = k
        · subst hik; unfold far; simp only [h1, h2, decide_false, Bool.or_self]
        · exact hv i (by omega)
  · intro R hv
    unfold f_X6_isHuge_b2
    exact wp_ifn (by simp) (b_len hk (by decide) (wp_ifp (ge_t (by omega)) (wp_rt ⟨by rw [hug_f hv]; rfl, rfl⟩)))
/-- nothing but the first number -/
def who (N : Nat) (f : Nat → Int64) : Bool := (fd (fun i => decide (¬ f i = 0)) (N - 1) 1).isNone
theorem who_f {N i : Nat} {f : Nat → Int64} (h1 : 1 ≤ i) (hi : i < N) (h : ¬ f i = 0) (h0 : ∀ j, 1 ≤ j → j < i → f j = 0) : who N f = false := by
  unfold who
  rw [fd_some (y := i) (by simp [h]) (N - 1) 1 (by omega) (by omega) (fun j h1 hj => by simp [h0 j h1 hj])]; rfl
theorem who_t {N : Nat} {f : Nat → Int64} (h : ∀ i, 1 ≤ i → i < N → f i = 0) : who N f = true := by
  unfold who
  rw [fd_none (N - 1) 1 (fun i h1 hi => by simp [h i h1 (by omega)])]; rfl
theorem t_isWhole {a N : Nat} (hk : kk K a = (2, N)) (hN : 1 ≤ N ∧ N ≤ 10000) : f_X6_isWhole (some a) (K, I, J, A) = some (zn (if who N (J a) then 1 else 0), (K, I, J, A)) := by
  apply wp_get
  unfold f_X6_isWhole f_X6_isWhole_l2
  refine pf1 (N := N) (fun k => 1 ≤ k ∧ ∀ i, 1 ≤ i → i < k → J a i = 0) ?_ ?_ (k := 1) (by omega) (by unfold fuel; omega) ⟨by omega, fun i _ _ => by omega⟩
  · rintro k R hk' ⟨h1, hv⟩ hR
    unfold f_X6_isWhole_b2
    refine wp_ifn (by simp) (b_len hk (by decide) (wp_ifn (ge_f (by omega)) (b_ldJ hk hk' (by omega) ?_)))
    by_cases h : J a k = 0
    · refine wp_ifp h (hR ⟨by omega, fun i hi1 hi => ?_⟩)
      by_cases hik : i = k
      · subst hik; exact h
      · exact hv i hi1 (by omega)
    · exact wp_ifn h (wp_rt ⟨by rw [who_f h1 hk' h hv]; rfl, rfl⟩)
  · rintro R ⟨_, hv⟩
    unfold f_X6_isWhole_b2
    exact wp_ifn (by simp) (b_len hk (by decide) (wp_ifp (ge_t (by omega)) (wp_rt ⟨by rw [who_t hv]; rfl, rfl⟩)))
def sam (N : Nat) (f g : Nat → Int64) : Bool := (fd (fun i => decide (¬ f i = g i)) N 0).isNone
theorem sam_f {N i : Nat} {f g : Nat → Int64} (hi : i < N) (h : ¬ f i = g i) (h0 : ∀ j, j < i → f j = g j) : sam N f g = false := by
  unfold sam
  rw [fd_some (y := i) (by simp [h]) N 0 (by omega) (by omega) (fun j h1 hj => by simp [h0 j hj])]; rfl
theorem sam_t {N : Nat} {f g : Nat → Int64} (h : ∀ i, i < N → f i = g i) : sam N f g = true := by
  unfold sam
  rw [fd_none N 0 (fun i h1 hi => by simp [h i (by omega)])]; rfl
theorem t_same {a b N : Nat} (hk : kk K a = (2, N)) (hkb : kk K b = (2, N)) (hN : N ≤ 10000) : f_X6_same (some a) (some b) (K, I, J, A) = some (zn (if sam N (J a) (J b) then 1 else 0), (K, I, J, A)) := by
  apply wp_get
  unfold f_X6_same f_X6_same_l19
  refine wp_ifn (by simp) (wp_ifn (by simp) (b_len hk (by decide) (b_len hkb (by decide) (wp_ifp rfl ?_))))
  refine pf1 (N := N) (fun k => ∀ i, i < k → J a i = J b i) ?_ ?_ (k := 0) (by omega) (by unfold fuel; omega) (fun i _ => by omega)
  · rintro k R hk' hv hR
    unfold f_X6_same_b19
    refine b_len hk (by decide) (wp_ifn (ge_f (by omega)) (b_ldJ hk hk' (by omega) (b_ldJ hkb hk' (by omega) ?_)))
    by_cases h : J a k = J b k
    · refine wp_ifp h (hR (fun i hi => ?_))
      by_cases hik : i = k
      · subst hik; exact h
      · exact hv i (by omega)
    · exact wp_ifn h (wp_rt ⟨by rw [sam_f hk' h hv]; rfl, rfl⟩)
  · intro R hv
    unfold f_X6_same_b19
    exact b_len hk (by decide) (wp_ifp (ge_t (by omega)) (wp_rt ⟨by rw [sam_t hv]; rfl, rfl⟩))
/-! the ring -/
def OT (K : List (Nat × Nat)) (I : Nat → Nat → Int32) : Prop := kk K 0 = (1, 13) ∧ kk K 1 = (1, 143) ∧ (∀ k, I 0 k = lenL.getD k 0) ∧ ∀ k, I 1 k = leastL.getD k 0
def RS (K : List (Nat × Nat)) (A : Nat → Nat → Option Nat) (g : Nat) : Prop := kk K g = (0, 5) ∧ A g 0 = some (g + 1) ∧ kk K (g + 1) = (2, 12) ∧ 64 ≤ g
theorem t_lengthOf {n : Nat} (hO : OT K I) (hn : n ≤ 12) : f_X5_lengthOf (zn n) (K, I, J, A) = some (zn (phi n), (K, I, J, A)) := by
  apply wp_get
  obtain ⟨o1, o2, o3, o4⟩ := hO
  unfold f_X5_lengthOf
  refine wp_ifn (lt_f (b := 0) (by omega)) (b_len o1 (by decide) (wp_ifn (ge_f (by omega)) (b_ldI o1 (by omega) (by omega) (wp_rt ⟨?_, rfl⟩))))
  rw [o3, (phi_tab n (by omega)).1]
theorem t_clear {Q : Unit → Hp → Prop} {g : Nat} (hR : RS K A g) (q : ∀ J', (∀ b, b ≠ g + 1 → J' b = J b) → (∀ i, i < 12 → J' (g + 1) i = wz i) → Q () (K, I, J', A)) : wp (f_X5_clear (some g)) Q (K, I, J, A) := by
  obtain ⟨r1, r2, r3, r4⟩ := hR
  unfold f_X5_clear
  refine b_getA r1 r2 (wp_bd (t_setWhole r3 (by omega) (by omega) (fun J' hf hv => wp_rt (q J' hf (fun i hi => ?_)))))
  rw [hv i hi]; unfold wz; split <;> rfl
theorem t_collect {g e n : Nat} {v : Int64} (hR : RS K A g) (he : e < 1000000) (hn : 2 ≤ n ∧ n ≤ 12) : f_X5_collect (some g) (zn e) v (zn n) (K, I, J, A) = some ((), (K, I, st2 J (g + 1) (e % n) (J (g + 1) (e % n) + v), A)) := by
  apply wp_get'
  obtain ⟨r1, r2, r3, r4⟩ := hR
  have hlt := Nat.mod_lt e (show n > 0 by omega)
  unfold f_X5_collect
  refine wp_ifp (ge_t (b := 1) (by omega)) ?_
  rw [zn_zi e]
  refine b_eq (t_floor32 (by omega) (by omega) (by omega) (by omega)) ?_
  rw [show (((e : Int) % (n : Int))).toNat = e % n by omega]
  unfold f_X5_collect_j16
  exact wp_ifn (lt_f (b := 0) (by omega)) (b_getA r1 r2 (b_len r3 (by decide) (wp_ifn (ge_f (by omega)) (b_getA r1 r2 (b_ldJ r3 (by omega) (by omega) (b_stJ r3 (by omega) (by omega) (by omega) (wp_rt ⟨rfl, rfl⟩)))))))
theorem t_settleI {g n hi : Nat} {w : Nat → Int64} {much : Int64} {o : Option Nat} {Kc : Int32 → Mo Unit} {Q : Unit → Hp → Prop} (hO : OT K I) (hR : RS K A g) (hn : 2 ≤ n ∧ n ≤ 12) (hhi : phi n ≤ hi ∧ hi < 12) (hw : ∀ i, i < 12 → J (g + 1) i = w i)
    (q : ∀ J', (∀ b, b ≠ g + 1 → J' b = J b) → (∀ i, i < 12 → J' (g + 1) i = stI n much (hi - phi n) w (phi n + 1) i) → wp (Kc (zn hi + (-1))) Q (K, I, J', A)) : wp (f_X5_settle_l30 Kc (some g) o (zn n) (zn (phi n)) (zn hi) much (zn 0)) Q (K, I, J, A) := by
  obtain ⟨r1, r2, r3, r4⟩ := hR
  obtain ⟨o1, o2, o3, o4⟩ := hO
  obtain ⟨p1, p2, p3⟩ := phi_rng hn.1 hn.2
  unfold f_X5_settle_l30
  refine for1 (N := phi n + 1) (fun k I' J' => I' = I ∧ (∀ b, b ≠ g + 1 → J' b = J b) ∧ ∀ i, i < 12 → J' (g + 1) i = stI n much (hi - phi n) w k i) ?_ ?_ (k := 0) (by omega) (by unfold fuel; omega) ⟨rfl, fun b _ => rfl, hw⟩
  · rintro k I' J' R hk ⟨rfl, hfr, hv⟩ hR
    unfold f_X5_settle_b30
    refine wp_ifn (gt_f (by omega)) (b_nm ?_)
    rw [zn_sub (by omega), zn_add]
    refine b_getA r1 r2 (b_getA r1 r2 (b_eq (t_atp r3 (by omega) (by omega)) ?_))
    rw [show (11 : Int32) = zn 11 from rfl, zn_mul, zn_add]
    refine b_eq (t_cellp o2 (by omega) (by omega)) ?_
    refine b_eq (t_put r3 (by omega) (by omega) (by omega)) ?_
    refine hR _ _ ⟨rfl, fun b hb => ?_, ?_⟩
    · rw [st2_nb hb]; exact hfr b hb
    · refine ag_st2 hv ?_
      rw [hv _ (by omega), o4]; rfl
  · rintro I' J' R ⟨rfl, hfr, hv⟩
    unfold f_X5_settle_b30
    exact wp_ifp (gt_t (by omega)) (q J' hfr hv)
theorem t_settle {Q : Unit → Hp → Prop} {g o n : Nat} {w : Nat → Int64} (hO : OT K I) (hR : RS K A g) (hn : 2 ≤ n ∧ n ≤ 12) (ho : kk K o = (2, 10)) (ho2 : 64 ≤ o) (hog : o ≠ g + 1) (hw : ∀ i, i < 12 → J (g + 1) i = w i) (hl : Lown n w)
    (q : ∀ J', (∀ b, b ≠ g + 1 → b ≠ o → J' b = J b) → (∀ i, i < 10 → J' o i = res n w i) → Q () (K, I, J', A)) : wp (f_X5_settle (some g) (some o) (zn n)) Q (K, I, J, A) := by
  have hR' := hR
  obtain ⟨r1, r2, r3, r4⟩ := hR'
  obtain ⟨p1, p2, p3⟩ := phi_rng hn.1 hn.2
  unfold f_X5_settle f_X5_settle_l10
  refine b_eq (t_lengthOf hO hn.2) (b_nm ?_)
  rw [zn_pred1 (by omega)]
  refine while1 (fun m x I' J' => ∃ t, x = zn (n - 1 - t) ∧ m = n - phi n - t ∧ t ≤ n - phi n ∧ I' = I ∧ (∀ b, b ≠ g + 1 → J' b = J b) ∧ ∀ i, i < 12 → J' (g + 1) i = stH n w t i) ?_ fuel (n - phi n) _ I J (by unfold fuel; omega) ⟨0, by rw [Nat.sub_zero], rfl, by omega, rfl, fun b _ => rfl, hw⟩
  rintro m x I' J' R ⟨t, rfl, rfl, ht, rfl, hfr, hv⟩ hr
  unfold f_X5_settle_b10
  by_cases h : t = n - phi n
  · refine wp_ifp (lt_t (by omega)) (b_getA r1 r2 (wp_bd (t_copy r3 ho ho2 (by omega) (by omega) (fun e => hog e.symm) (fun J'' hf2 hv2 => wp_rt (q J'' (fun b h1 h2 => ?_) (fun i hi => ?_))))))
    · rw [hf2 b h2, hfr b h1]
    · rw [hv2 i hi, if_pos (by omega), hv i (by omega), h, res_eq hn.1 hn.2 (fun i h1 _ => hl i h1) (by omega)]
  · refine wp_ifn (lt_f (by omega)) (b_getA r1 r2 (b_eq (t_atp r3 (by omega) (by omega)) ?_))
    refine t_settleI hO hR hn (by omega) hv (fun J'' hf2 hv2 => ?_)
    rw [show n - 1 - t = (n - 1 - (t + 1)) + 1 by omega, zn_pred]
    refine hr (n - phi n - (t + 1)) _ _ _ (by omega) ⟨t + 1, rfl, rfl, by omega, rfl, fun b hb => ?_, ?_⟩
    · rw [hf2 b hb, hfr b hb]
    · intro i hi
      rw [hv2 i hi, hv _ (by omega)]; rfl
end
