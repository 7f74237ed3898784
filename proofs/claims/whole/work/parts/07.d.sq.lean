/-! ===== squares, forms, classes ===== -/
def fd (P : Nat → Bool) : Nat → Nat → Option Nat
  | 0, _ => none
  | n + 1, k => if P k then some k else fd P n (k + 1)
theorem fd_some {P : Nat → Bool} {y : Nat} (hy : P y = true) : ∀ n k, k ≤ y → y < k + n → (∀ i, k ≤ i → i < y → P i = false) → fd P n k = some y := by
  intro n
  induction n with
  | zero => intro k h1 h2; omega
  | succ n ih =>
    intro k h1 h2 h3
    unfold fd
    by_cases hk : k = y
    · rw [hk, if_pos hy]
    · rw [if_neg (by rw [h3 k (by omega) (by omega)]; decide)]
      exact ih (k + 1) (by omega) (by omega) (fun i h4 h5 => h3 i (by omega) h5)
theorem fd_none {P : Nat → Bool} : ∀ n k, (∀ i, k ≤ i → i < k + n → P i = false) → fd P n k = none := by
  intro n
  induction n with
  | zero => intro k _; rfl
  | succ n ih =>
    intro k h3
    unfold fd
    rw [if_neg (by rw [h3 k (by omega) (by omega)]; decide)]
    exact ih (k + 1) (fun i h4 h5 => h3 i (by omega) (by omega))
def sg (p r : Nat) : Int := if r = 0 then 0 else if (List.range p).any (fun y => y * y % p == r) then 1 else -1
theorem sg_pos {p r y : Nat} (h0 : ¬ r = 0) (hy : y < p) (h : y * y % p = r) : sg p r = 1 := by
  unfold sg
  rw [if_neg h0, if_pos]
  rw [List.any_eq_true]
  exact ⟨y, List.mem_range.mpr hy, by simp [h]⟩
theorem sg_neg {p r : Nat} (h0 : ¬ r = 0) (h : ∀ y, y < p → 1 ≤ y → ¬ y * y % p = r) : sg p r = -1 := by
  unfold sg
  rw [if_neg h0, if_neg]
  rw [List.any_eq_true]
  rintro ⟨y, hy, he⟩
  have hy' := List.mem_range.mp hy
  simp at he
  by_cases h1 : 1 ≤ y
  · exact h y hy' h1 he
  · rw [show y = 0 by omega] at he; simp at he; omega
theorem sq_lt {y p : Nat} (h : y < p) (hp : p < 1000) : y * y < 1000000 := by
  have := Nat.mul_le_mul (show y ≤ 999 by omega) (show y ≤ 999 by omega)
  omega
theorem t_signOf {v : Int} {p : Nat} {h : Hp} (hv : -2147483648 ≤ v ∧ v < 2147483648) (hp : 2 ≤ p ∧ p < 1000) : f_X8_signOf (zi v) (zn p) h = some (zi (sg p (v % p).toNat), h) := by
  apply wp_get
  have hb1 := Int.emod_nonneg v (show (p : Int) ≠ 0 by omega)
  have hb2 := Int.emod_lt_of_pos v (show (0 : Int) < p by omega)
  unfold f_X8_signOf
  refine b_eq (t_mod (zj_zi hv.1 hv.2) (by omega) (by omega)) ?_
  generalize hr : (v % p).toNat = r
  have hrp : r < p := by omega
  refine wp_ifq (not_congr (zn0 (by omega))) ?_
  by_cases h0 : r = 0
  · exact wp_ifn (fun q => q h0) (wp_rt ⟨by rw [h0]; rfl, rfl⟩)
  · refine wp_ifp h0 ?_
    refine pf1 (N := p) (fun i => 1 ≤ i ∧ ∀ y, y < i → 1 ≤ y → ¬ y * y % p = r) ?_ ?_ (n := fuel) (k := 1) (by omega) (by unfold fuel; omega) ⟨by omega, fun y _ _ => by omega⟩
    · rintro i R hi ⟨hi1, hinv⟩ hk
      unfold f_X8_signOf_b15
      refine wp_ifn (ge_f (by omega)) ?_
      rw [zn_mul]
      refine b_eq (t_modn (zn_i64 (show i * i < 2147483648 from Nat.lt_of_lt_of_le (sq_lt hi hp.2) (by omega))) (by omega) (by omega)) ?_
      have hlt := Nat.mod_lt (i * i) (show p > 0 by omega)
      refine wp_ifq (not_congr (zn_inj (by omega) (by omega))) ?_
      by_cases he : i * i % p = r
      · exact wp_ifn (fun q => q he) (wp_rt ⟨by rw [sg_pos h0 hi he]; rfl, rfl⟩)
      · refine wp_ifp he (hk ⟨by omega, fun y hy hy1 => ?_⟩)
        by_cases hyi : y = i
        · rw [hyi]; exact he
        · exact hinv y (by omega) hy1
    · rintro R ⟨_, hinv⟩
      unfold f_X8_signOf_b15
      exact wp_ifp (ge_t (by omega)) (wp_rt ⟨by rw [sg_neg h0 hinv]; rfl, rfl⟩)
theorem tmod2 {v : Int} {p : Nat} (hp : 1 ≤ p) : (v.tmod p + p).tmod p = v % p := by
  have hb1 := Int.emod_nonneg v (show (p : Int) ≠ 0 by omega)
  have hb2 := Int.emod_lt_of_pos v (show (0 : Int) < p by omega)
  obtain ⟨c1, c2⟩ := tmod_cases v (n := p) (by omega)
  by_cases h0 : 0 ≤ v
  · rw [c1 h0, Int.tmod_eq_emod_of_nonneg (by omega), Int.add_emod_right, Int.emod_eq_of_lt hb1 hb2]
  · obtain ⟨d1, d2⟩ := c2 (by omega)
    by_cases hz : v.tmod p = 0
    · rw [hz, d1 hz]; simp
    · rw [d2 hz, Int.tmod_eq_emod_of_nonneg hb1, Int.emod_eq_of_lt hb1 hb2]
theorem tmod_rng (v : Int) {p : Nat} (hp : 1 ≤ p) : -(p : Int) < v.tmod p ∧ v.tmod p < p := by
  have h1 := Int.natAbs_tmod v p
  have h2 : v.natAbs % (p : Int).natAbs < (p : Int).natAbs := Nat.mod_lt _ (by simp; omega)
  omega
theorem irem_ziw {a : Int} {b : Nat} (h1 : -2147483648 ≤ a) (h2 : a < 2147483648) (h3 : 2 ≤ b) (h4 : b < 2147483648) : irem (zi a) (zn b) = zi (a.tmod b) := by
  by_cases h : -2147483648 < a
  · rw [zn_zi, irem_zi h h2 (by omega) (by omega)]
  · have : a = -2147483648 := by omega
    subst this
    unfold irem
    have e : zi (-2147483648) / zn b = zi (Int.tdiv (-2147483648) b) := by
      rw [zn_zi]
      apply Int32.toInt.inj
      have hb : zi (b : Int) ≠ -1 := by
        intro q
        have := congrArg Int32.toInt q
        rw [zi_toInt (by omega) (by omega), show ((-1 : Int32)).toInt = -1 from rfl] at this
        omega
      rw [Int32.toInt_div_of_ne_right _ _ hb, zi_toInt (by omega) (by omega), zi_toInt (by omega) (by omega), zi_toInt]
      · have := Int.tdiv_le_self (a := -2147483648) (b : Int)
        have h5 := Int.tdiv_eq_ediv_of_nonneg (a := 2147483648) (b := (b : Int)) (by omega)
        rw [show (-2147483648 : Int) = -(2147483648) by rfl, Int.neg_tdiv, h5]
        have := Int.ediv_le_self (a := 2147483648) (b : Int) (by omega)
        omega
      · rw [show (-2147483648 : Int) = -(2147483648) by rfl, Int.neg_tdiv]
        have h5 := Int.tdiv_eq_ediv_of_nonneg (a := 2147483648) (b := (b : Int)) (by omega)
        rw [h5]
        have := Int.ediv_nonneg (a := 2147483648) (b := (b : Int)) (by omega) (by omega)
        omega
    rw [e, zn_zi, zi_mul, zi_sub]
    congr 1
    have := Int.tmod_add_mul_tdiv (-2147483648) b
    rw [Int.mul_comm] at this
    omega
theorem t_signOfR {v : Int} {p : Nat} {h : Hp} (hv : -2147483648 ≤ v ∧ v < 2147483648) (hp : 2 ≤ p ∧ p < 1000) : f_X13_signOf (zi v) (zn p) h = some (zi (sg p (v % p).toNat), h) := by
  apply wp_get
  have hb1 := Int.emod_nonneg v (show (p : Int) ≠ 0 by omega)
  have hb2 := Int.emod_lt_of_pos v (show (0 : Int) < p by omega)
  have hp0 : ¬ zn p = 0 := by rw [zn0 (by omega)]; omega
  have hr1 := tmod_rng v (show 1 ≤ p by omega)
  unfold f_X13_signOf
  refine wp_rq hp0 (wp_rq hp0 (b_nm ?_))
  rw [irem_ziw hv.1 hv.2 (by omega) (by omega), zn_zi, zi_add, irem_zi (by omega) (by omega) (by omega) (by omega), tmod2 (by omega)]
  generalize hr : v % p = r
  have hrn : zi r = zn r.toNat := by rw [zn_zi]; congr 1; omega
  rw [hrn, ← zn_zi]
  have hrp : r.toNat < p := by omega
  generalize r.toNat = r at hrp ⊢
  refine wp_ifq (not_congr (zn0 (by omega))) ?_
  by_cases h0 : r = 0
  · exact wp_ifn (fun q => q h0) (wp_rt ⟨by rw [h0]; rfl, rfl⟩)
  · refine wp_ifp h0 ?_
    refine pf1 (N := p) (fun i => 1 ≤ i ∧ ∀ y, y < i → 1 ≤ y → ¬ y * y % p = r) ?_ ?_ (n := fuel) (k := 1) (by omega) (by unfold fuel; omega) ⟨by omega, fun y _ _ => by omega⟩
    · rintro i R hi ⟨hi1, hinv⟩ hk
      unfold f_X13_signOf_b16
      refine wp_ifn (ge_f (by omega)) (wp_rq hp0 ?_)
      have hlt := Nat.mod_lt (i * i) (show p > 0 by omega)
      rw [zn_mul, irem_zn (show i * i < 2147483648 from Nat.lt_of_lt_of_le (sq_lt hi hp.2) (by omega)) (by omega)]
      refine wp_ifq (not_congr (zn_inj (by omega) (by omega))) ?_
      by_cases he : i * i % p = r
      · exact wp_ifn (fun q => q he) (wp_rt ⟨by rw [sg_pos h0 hi he]; rfl, rfl⟩)
      · refine wp_ifp he (hk ⟨by omega, fun y hy hy1 => ?_⟩)
        by_cases hyi : y = i
        · rw [hyi]; exact he
        · exact hinv y (by omega) hy1
    · rintro R ⟨_, hinv⟩
      unfold f_X13_signOf_b16
      exact wp_ifp (ge_t (by omega)) (wp_rt ⟨by rw [sg_neg h0 hinv]; rfl, rfl⟩)
/-! squares -/
def isSq (v : Nat) : Bool := (fd (fun r => r * r == v) 16 0).isSome
theorem isSq_t {v r : Nat} (hr : r < 16) (h : r * r = v) : isSq v = true := by
  unfold isSq
  rw [fd_some (y := r) (by simp [h]) 16 0 (by omega) (by omega)]
  · rfl
  · intro i _ hi
    have : ¬ i * i = v := by
      intro e
      have := Nat.mul_self_lt_mul_self hi
      omega
    simp [this]
theorem isSq_f {v : Nat} (h : ∀ r, r < 16 → ¬ r * r = v) : isSq v = false := by
  unfold isSq
  rw [fd_none 16 0 (fun i _ hi => by simp [h i (by omega)])]
  rfl
theorem t_isSquare {v : Nat} {h : Hp} (hv : v ≤ 199) : f_X8_isSquare (zn v) h = some (zn (if isSq v then 1 else 0), h) := by
  apply wp_get
  unfold f_X8_isSquare f_X8_isSquare_l2
  refine pw1 (fun m x => ∃ i, x = zn i ∧ m = 15 - i ∧ i ≤ 15 ∧ ∀ r, r < i → ¬ r * r = v) ?_ fuel 15 _ (by unfold fuel; omega) ⟨0, rfl, rfl, by omega, fun r _ => by omega⟩
  rintro m x R ⟨i, rfl, rfl, hi, hinv⟩ hr
  have hii : i * i ≤ 225 := Nat.mul_le_mul hi hi
  unfold f_X8_isSquare_b2
  rw [zn_mul]
  by_cases hc : v < i * i
  · refine wp_ifp (gt_t (by omega)) (wp_rt ⟨?_, rfl⟩)
    rw [isSq_f]
    · rfl
    · intro r _ e
      by_cases hri : r < i
      · exact hinv r hri e
      · have := Nat.mul_le_mul (show i ≤ r by omega) (show i ≤ r by omega)
        omega
  · refine wp_ifn (gt_f (by omega)) (wp_ifn (gt_f (b := 199) (by omega)) ?_)
    refine wp_ifq (not_congr (zn_inj (by omega) (by omega))) ?_
    by_cases he : i * i = v
    · exact wp_ifn (fun q => q he) (wp_rt ⟨by rw [isSq_t (show i < 16 by omega) he]; rfl, rfl⟩)
    · have hi14 : i < 15 := by
        apply Nat.lt_of_not_le
        intro hle
        have := Nat.mul_le_mul hle hle
        omega
      refine wp_ifp he ?_
      rw [zn_succ]
      refine hr _ _ (by omega) ⟨i + 1, rfl, rfl, by omega, fun r hr => ?_⟩
      by_cases hri : r = i
      · rw [hri]; exact he
      · exact hinv r (by omega)
theorem t_isSquareR {v : Nat} {h : Hp} (hv : v ≤ 199) : f_X13_isSquare (zn v) h = some (zn (if isSq v then 1 else 0), h) := by
  apply wp_get
  unfold f_X13_isSquare f_X13_isSquare_l2
  refine pw1 (fun m x => ∃ i, x = zn i ∧ m = 15 - i ∧ i ≤ 15 ∧ ∀ r, r < i → ¬ v ≤ r * r) ?_ fuel 15 _ (by unfold fuel; omega) ⟨0, rfl, rfl, by omega, fun r _ => by omega⟩
  rintro m x R ⟨i, rfl, rfl, hi, hinv⟩ hr
  have hii : i * i ≤ 225 := Nat.mul_le_mul hi hi
  unfold f_X13_isSquare_b2
  rw [zn_mul]
  by_cases hc : v ≤ i * i
  · refine wp_ifp (ge_t (by omega)) ?_
    refine wp_ifq (not_congr (zn_inj (by omega) (by omega))) ?_
    by_cases he : i * i = v
    · exact wp_ifn (fun q => q he) (wp_rt ⟨by rw [isSq_t (show i < 16 by omega) he]; rfl, rfl⟩)
    · refine wp_ifp he (wp_rt ⟨?_, rfl⟩)
      rw [isSq_f]
      · rfl
      · intro r _ e
        by_cases hri : r < i
        · exact hinv r hri (by omega)
        · have := Nat.mul_le_mul (show i ≤ r by omega) (show i ≤ r by omega)
          omega
  · have hi14 : i < 15 := by
      apply Nat.lt_of_not_le
      intro hle
      have := Nat.mul_le_mul hle hle
      omega
    refine wp_ifn (ge_f (by omega)) ?_
    rw [zn_succ]
    refine hr _ _ (by omega) ⟨i + 1, rfl, rfl, by omega, fun r hr => ?_⟩
    by_cases hri : r = i
    · rw [hri]; exact hc
    · exact hinv r (by omega)
/-! the least y with p - d y y a square -/
def lfP (p d : Nat) (y : Nat) : Bool := decide (d * y * y ≤ p) && isSq (p - d * y * y)
def lf (p d : Nat) : Int := match fd (lfP p d) (p + 1) 0 with
  | some y => (y : Int)
  | none => -2
theorem lf_far {p d y y' : Nat} (h : p < d * y * y) (hy : y ≤ y') : lfP p d y' = false := by
  have : d * y * y ≤ d * y' * y' := Nat.mul_le_mul (Nat.mul_le_mul (Nat.le_refl _) hy) hy
  unfold lfP
  simp
  omega
theorem ltyy {p d y : Nat} (hd : 1 ≤ d) (h : d * y * y ≤ p) : y * y ≤ p := by
  have : 1 * y * y ≤ d * y * y := Nat.mul_le_mul (Nat.mul_le_mul hd (Nat.le_refl _)) (Nat.le_refl _)
  rw [Nat.one_mul] at this
  omega
theorem dyy_le {d y : Nat} (hd : d ≤ 99) (hy : y ≤ 16) : d * y * y ≤ 25344 := Nat.mul_le_mul (Nat.mul_le_mul hd hy) hy
theorem y_le {y : Nat} (h : y * y ≤ 199) : y ≤ 14 := by
  apply Nat.le_of_not_lt
  intro hl
  have := Nat.mul_le_mul (show 15 ≤ y by omega) (show 15 ≤ y by omega)
  omega
theorem t_leastForm {p d : Nat} {h : Hp} (hp : 3 ≤ p ∧ p ≤ 199) (hd : 1 ≤ d ∧ d ≤ 99) : f_X8_leastForm (zn p) (zn d) h = some (zi (lf p d), h) := by
  apply wp_get
  unfold f_X8_leastForm f_X8_leastForm_l2
  refine pw1 (fun m x => ∃ i, x = zn i ∧ m = 16 - i ∧ i ≤ 15 ∧ ∀ r, r < i → lfP p d r = false) ?_ fuel 16 _ (by unfold fuel; omega) ⟨0, rfl, rfl, by omega, fun r _ => by omega⟩
  rintro m x R ⟨i, rfl, rfl, hi, hinv⟩ hr
  have hb := dyy_le hd.2 (show i ≤ 16 by omega)
  unfold f_X8_leastForm_b2
  rw [zn_mul, zn_mul]
  by_cases h1 : p < i
  · refine wp_ifp (gt_t (by omega)) (wp_rt ⟨?_, rfl⟩)
    unfold lf
    rw [fd_none (p + 1) 0 (fun r _ hr => hinv r (by omega))]
    exact z_m2
  · refine wp_ifn (gt_f (by omega)) ?_
    by_cases h2 : p < d * i * i
    · refine wp_ifp (gt_t (by omega)) (wp_rt ⟨?_, rfl⟩)
      unfold lf
      rw [fd_none (p + 1) 0 (fun r _ hr => if hri : r < i then hinv r hri else lf_far h2 (by omega))]
      exact z_m2
    · refine wp_ifn (gt_f (by omega)) ?_
      rw [zn_sub (by omega)]
      refine b_eq (t_isSquare (by omega)) ?_
      have hi14 := y_le (show i * i ≤ 199 by have := ltyy hd.1 (show d * i * i ≤ p by omega); omega)
      by_cases hs : isSq (p - d * i * i) = true
      · rw [if_pos hs]
        refine wp_ifn (by decide) (wp_rt ⟨?_, rfl⟩)
        unfold lf
        rw [fd_some (y := i) (by unfold lfP; simp [hs]; omega) (p + 1) 0 (by omega) (by omega) (fun r _ hr => hinv r hr)]
        exact zn_zi i
      · rw [if_neg hs]
        refine wp_ifp (by decide) ?_
        rw [zn_succ]
        refine hr _ _ (by omega) ⟨i + 1, rfl, rfl, by omega, fun r hr => ?_⟩
        by_cases hri : r = i
        · rw [hri]; unfold lfP; simp [hs]
        · exact hinv r (by omega)
theorem t_formR {p d : Nat} {h : Hp} {o : Option Nat} {Q : Int32 → Hp → Prop} (hp : 3 ≤ p ∧ p ≤ 199) (hd : 1 ≤ d ∧ d ≤ 99) (hq : wp (mBd (mCk 11 o (f_X13_good o (zi (lf p d)))) (fun r => mRt r)) Q h) : wp (f_X13_form_l36 o (zn p) (zn d) 0) Q h := by
  unfold f_X13_form_l36
  refine pw1 (fun m x => ∃ i, x = zn i ∧ m = 16 - i ∧ i ≤ 15 ∧ ∀ r, r < i → lfP p d r = false) ?_ fuel 16 _ (by unfold fuel; omega) ⟨0, rfl, rfl, by omega, fun r _ => by omega⟩
  rintro m x R ⟨i, rfl, rfl, hi, hinv⟩ hr
  have hb := dyy_le hd.2 (show i ≤ 16 by omega)
  unfold f_X13_form_b36
  rw [zn_mul, zn_mul]
  by_cases h2 : p < d * i * i
  · refine wp_ifp (gt_t (by omega)) ?_
    have e : lf p d = -2 := by
      unfold lf
      rw [fd_none (p + 1) 0 (fun r _ hr => if hri : r < i then hinv r hri else lf_far h2 (by omega))]
    rw [e, ← z_m2] at hq
    exact hq
  · refine wp_ifn (gt_f (by omega)) ?_
    rw [zn_sub (by omega)]
    refine b_eq (t_isSquareR (by omega)) ?_
    have hyy := ltyy hd.1 (show d * i * i ≤ p by omega)
    have hi14 := y_le (show i * i ≤ 199 by omega)
    by_cases hs : isSq (p - d * i * i) = true
    · rw [if_pos hs]
      refine wp_ifn (by decide) ?_
      have e : lf p d = i := by
        unfold lf
        have hip : i ≤ p := Nat.le_trans (Nat.le_mul_self i) hyy
        rw [fd_some (y := i) (by unfold lfP; simp [hs]; omega) (p + 1) 0 (by omega) (by omega) (fun r _ hr => hinv r hr)]
      rw [e, ← zn_zi] at hq
      exact hq
    · rw [if_neg hs]
      refine wp_ifp (by decide) ?_
      rw [zn_succ]
      refine hr _ _ (by omega) ⟨i + 1, rfl, rfl, by omega, fun r hr => ?_⟩
      by_cases hri : r = i
      · rw [hri]; unfold lfP; simp [hs]
      · exact hinv r (by omega)
