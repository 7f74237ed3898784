/-! ===== numbers alone: primes, common parts, squares, forms ===== -/
theorem wp_get {α : Type} {F : Mo α} {h : Hp} {v : α} (w : wp F (fun r h' => r = v ∧ h' = h) h) : F h = some (v, h) := by
  obtain ⟨r, h', e, q1, q2⟩ := w
  rw [e, q1, q2]
theorem ge_t {a b : Nat} (h : b ≤ a ∧ a < 2147483648) : zn a ≥ zn b := (zn_le (by omega) (by omega)).mpr h.1
theorem ge_f {a b : Nat} (h : a < b ∧ b < 2147483648) : ¬ zn a ≥ zn b := fun q => by have := (zn_le (by omega) (by omega)).mp q; omega
theorem gt_t {a b : Nat} (h : b < a ∧ a < 2147483648) : zn a > zn b := (zn_lt (by omega) (by omega)).mpr h.1
theorem gt_f {a b : Nat} (h : a ≤ b ∧ b < 2147483648) : ¬ zn a > zn b := fun q => by have := (zn_lt (by omega) (by omega)).mp q; omega
theorem lt_t {a b : Nat} (h : a < b ∧ b < 2147483648) : zn a < zn b := (zn_lt (by omega) (by omega)).mpr h.1
theorem lt_f {a b : Nat} (h : b ≤ a ∧ a < 2147483648) : ¬ zn a < zn b := fun q => by have := (zn_lt (by omega) (by omega)).mp q; omega
theorem le_t {a b : Nat} (h : a ≤ b ∧ b < 2147483648) : zn a ≤ zn b := (zn_le (by omega) (by omega)).mpr h.1
theorem le_f {a b : Nat} (h : b < a ∧ a < 2147483648) : ¬ zn a ≤ zn b := fun q => by have := (zn_le (by omega) (by omega)).mp q; omega
theorem eq_f {a b : Nat} (h : ¬ a = b ∧ a < 2147483648 ∧ b < 2147483648) : ¬ zn a = zn b := fun q => h.1 ((zn_inj (by omega) (by omega)).mp q)
theorem ige_t {a b : Int} (h : b ≤ a ∧ a < 2147483648 ∧ -2147483648 ≤ b) : zi a ≥ zi b := (zi_le (by omega) (by omega) (by omega) (by omega)).mpr h.1
theorem ige_f {a b : Int} (h : a < b ∧ b < 2147483648 ∧ -2147483648 ≤ a) : ¬ zi a ≥ zi b := fun q => by have := (zi_le (by omega) (by omega) (by omega) (by omega)).mp q; omega
theorem igt_t {a b : Int} (h : b < a ∧ a < 2147483648 ∧ -2147483648 ≤ b) : zi a > zi b := (zi_lt (by omega) (by omega) (by omega) (by omega)).mpr h.1
theorem igt_f {a b : Int} (h : a ≤ b ∧ b < 2147483648 ∧ -2147483648 ≤ a) : ¬ zi a > zi b := fun q => by have := (zi_lt (by omega) (by omega) (by omega) (by omega)).mp q; omega
theorem ilt_t {a b : Int} (h : a < b ∧ b < 2147483648 ∧ -2147483648 ≤ a) : zi a < zi b := (zi_lt (by omega) (by omega) (by omega) (by omega)).mpr h.1
theorem ilt_f {a b : Int} (h : b ≤ a ∧ a < 2147483648 ∧ -2147483648 ≤ b) : ¬ zi a < zi b := fun q => by have := (zi_lt (by omega) (by omega) (by omega) (by omega)).mp q; omega
theorem ile_t {a b : Int} (h : a ≤ b ∧ b < 2147483648 ∧ -2147483648 ≤ a) : zi a ≤ zi b := (zi_le (by omega) (by omega) (by omega) (by omega)).mpr h.1
theorem ile_f {a b : Int} (h : b < a ∧ a < 2147483648 ∧ -2147483648 ≤ b) : ¬ zi a ≤ zi b := fun q => by have := (zi_le (by omega) (by omega) (by omega) (by omega)).mp q; omega
theorem ieq_f {a b : Int} (h : ¬ a = b ∧ -2147483648 ≤ a ∧ a < 2147483648 ∧ -2147483648 ≤ b ∧ b < 2147483648) : ¬ zi a = zi b := fun q => h.1 ((zi_inj (by omega) (by omega) (by omega) (by omega)).mp q)
theorem zi_0 : (0 : Int32) = zi 0 := rfl
theorem zn0 {a : Nat} (h : a < 2147483648) : zn a = 0 ↔ a = 0 := by rw [z_0, zn_inj h (by omega)]
theorem zi0 {a : Int} (h : -2147483648 ≤ a ∧ a < 2147483648) : zi a = 0 ↔ a = 0 := by rw [zi_0, zi_inj h.1 h.2 (by omega) (by omega)]
theorem zn1 {a : Nat} (h : a < 2147483648) : zn a = 1 ↔ a = 1 := by rw [z_1, zn_inj h (by omega)]
theorem wp_ifq {α : Type} {c c' : Prop} [Decidable c] [Decidable c'] {F G : Mo α} {Q : α → Hp → Prop} {h : Hp} (e : c ↔ c') (w : wp (if c' then F else G) Q h) : wp (if c then F else G) Q h := by
  by_cases hc : c
  · rw [if_pos hc]; rw [if_pos (e.mp hc)] at w; exact w
  · rw [if_neg hc]; rw [if_neg (fun q => hc (e.mpr q))] at w; exact w
section
variable {ρ : Type} {Q : ρ → Hp → Prop} {h : Hp}
theorem pw1 {α : Type} {b : (α → Mo ρ) → α → Mo ρ} (Inv : Nat → α → Prop) (step : ∀ m x R, Inv m x → (∀ m' y, m' < m → Inv m' y → wp (R y) Q h) → wp (b R x) Q h) : ∀ (n m : Nat) (x : α), m < n → Inv m x → wp (lq1 b n x) Q h := by
  intro n
  induction n with
  | zero => intro m x h; omega
  | succ n ih => exact fun m x hm hi => step m x (lq1 b n) hi (fun m' y hl hi' => ih m' y (by omega) hi')
theorem pw2 {α γ : Type} {b : (α → γ → Mo ρ) → α → γ → Mo ρ} (Inv : Nat → α → γ → Prop) (step : ∀ m x y R, Inv m x y → (∀ m' x' y', m' < m → Inv m' x' y' → wp (R x' y') Q h) → wp (b R x y) Q h) : ∀ (n m : Nat) (x : α) (y : γ), m < n → Inv m x y → wp (lq2 b n x y) Q h := by
  intro n
  induction n with
  | zero => intro m x y h; omega
  | succ n ih => exact fun m x y hm hi => step m x y (lq2 b n) hi (fun m' x' y' hl hi' => ih m' x' y' (by omega) hi')
theorem pw3 {α γ δ : Type} {b : (α → γ → δ → Mo ρ) → α → γ → δ → Mo ρ} (Inv : Nat → α → γ → δ → Prop) (step : ∀ m x y z R, Inv m x y z → (∀ m' x' y' z', m' < m → Inv m' x' y' z' → wp (R x' y' z') Q h) → wp (b R x y z) Q h) : ∀ (n m : Nat) (x : α) (y : γ) (z : δ), m < n → Inv m x y z → wp (lq3 b n x y z) Q h := by
  intro n
  induction n with
  | zero => intro m x y z h; omega
  | succ n ih => exact fun m x y z hm hi => step m x y z (lq3 b n) hi (fun m' x' y' z' hl hi' => ih m' x' y' z' (by omega) hi')
theorem pf1 {b : (Int32 → Mo ρ) → Int32 → Mo ρ} {N : Nat} (Inv : Nat → Prop) (step : ∀ k R, k < N → Inv k → (Inv (k + 1) → wp (R (zn k + 1)) Q h) → wp (b R (zn k)) Q h) (exit : ∀ R, Inv N → wp (b R (zn N)) Q h) {n k : Nat} (hk : k ≤ N) (hn : N < n) (h0 : Inv k) : wp (lq1 b n (zn k)) Q h := by
  refine pw1 (fun m x => ∃ k, x = zn k ∧ k ≤ N ∧ m = N - k ∧ Inv k) ?_ n (N - k) (zn k) (by omega) ⟨k, rfl, hk, rfl, h0⟩
  rintro m x R ⟨k, rfl, hk, rfl, hi⟩ hr
  by_cases he : k = N
  · subst he; exact exit R hi
  · exact step k R (by omega) hi (fun hi' => hr (N - (k + 1)) _ (by omega) ⟨k + 1, zn_succ k, by omega, rfl, hi'⟩)
theorem pf2 {α : Type} {b : (α → Int32 → Mo ρ) → α → Int32 → Mo ρ} {N : Nat} (Inv : Nat → α → Prop) (step : ∀ k x R, k < N → Inv k x → (∀ y, Inv (k + 1) y → wp (R y (zn k + 1)) Q h) → wp (b R x (zn k)) Q h) (exit : ∀ x R, Inv N x → wp (b R x (zn N)) Q h) {n k : Nat} {x : α} (hk : k ≤ N) (hn : N < n) (h0 : Inv k x) : wp (lq2 b n x (zn k)) Q h := by
  refine pw2 (fun m x y => ∃ k, y = zn k ∧ k ≤ N ∧ m = N - k ∧ Inv k x) ?_ n (N - k) x (zn k) (by omega) ⟨k, rfl, hk, rfl, h0⟩
  rintro m x y R ⟨k, rfl, hk, rfl, hi⟩ hr
  by_cases he : k = N
  · subst he; exact exit x R hi
  · exact step k x R (by omega) hi (fun y hi' => hr (N - (k + 1)) _ _ (by omega) ⟨k + 1, zn_succ k, by omega, rfl, hi'⟩)
end
theorem t_commonPart {a : Nat} {y : Int} {h : Hp} (ha : 1 ≤ a ∧ a < 1000000) (hy : -1000000 < y ∧ y < 1000000) : f_X8_commonPart (zn a) (zi y) h = some (zn (Nat.gcd a y.natAbs), h) := by
  apply wp_get
  have hg1 := Nat.gcd_dvd_left a y.natAbs
  have hg2 := Nat.gcd_dvd_right a y.natAbs
  have hg3 : 1 ≤ Nat.gcd a y.natAbs := Nat.gcd_pos_of_pos_left _ (by omega)
  have hg4 : ∀ d, d ∣ a → d ∣ y.natAbs → d ≤ Nat.gcd a y.natAbs := fun d h1 h2 => Nat.le_of_dvd (by omega) (Nat.dvd_gcd h1 h2)
  generalize Nat.gcd a y.natAbs = g at *
  refine pw1 (fun m x => ∃ d, x = zn d ∧ m = d ∧ 1 ≤ d ∧ d ≤ a ∧ g ≤ d) ?_ fuel a (zn a) (by unfold fuel; omega) ⟨a, rfl, rfl, by omega, by omega, Nat.le_of_dvd (by omega) hg1⟩
  rintro m x R ⟨d, rfl, rfl, h1, h2, h3⟩ hr
  unfold f_X8_commonPart_b2
  by_cases hd : m ≤ 1
  · exact wp_ifp (le_t (b := 1) (by omega)) (wp_rt ⟨by rw [show g = 1 by omega]; rfl, rfl⟩)
  · refine wp_ifn (le_f (b := 1) (by omega)) ?_
    have hd0 : ¬ zn m = 0 := by rw [zn0 (by omega)]; omega
    refine wp_rq hd0 ?_
    have hnext : ¬ g = m → wp (R (zn m + -1)) (fun r h' => r = zn g ∧ h' = h) h := by
      intro hne
      obtain ⟨m', rfl⟩ : ∃ m', m = m' + 1 := ⟨m - 1, by omega⟩
      rw [zn_pred]
      exact hr m' _ (by omega) ⟨m', rfl, rfl, by omega, by omega, by omega⟩
    rw [irem_zn (by omega) (by omega)]
    refine wp_ifq (not_congr (zn0 (show a % m < 2147483648 from Nat.lt_of_lt_of_le (Nat.mod_lt _ (by omega)) (by omega)))) ?_
    by_cases hm : a % m = 0
    · refine wp_ifn (fun q => q hm) ?_
      refine wp_rq hd0 ?_
      have hb : (y.tmod m).natAbs < m := by
        have := Int.natAbs_tmod y m
        rw [this]
        exact Nat.mod_lt _ (by simp; omega)
      rw [zn_zi m, irem_zi (by omega) (by omega) (by omega) (by omega)]
      refine wp_ifq (not_congr (zi0 (by omega))) ?_
      by_cases hz : y.tmod m = 0
      · refine wp_ifn (fun q => q hz) (wp_rt ⟨?_, rfl⟩)
        have : m ∣ y.natAbs := by
          have := Int.dvd_of_tmod_eq_zero hz
          exact Int.ofNat_dvd_left.mp this
        have := hg4 m (Nat.dvd_of_mod_eq_zero hm) this
        rw [← zn_zi]; congr 1; omega
      · refine wp_ifp hz ?_
        rw [← zn_zi]
        refine hnext (fun e => hz ?_)
        have : (m : Int) ∣ y := Int.ofNat_dvd_left.mpr (e ▸ hg2)
        exact Int.tmod_eq_zero_of_dvd this
    · exact wp_ifp hm (hnext (fun e => hm (Nat.mod_eq_zero_of_dvd (e ▸ hg1))))
theorem t_divisor {a b : Nat} {h : Hp} (ha : a < 1000000) (hb : b < 900000) : f_X13_divisor (zn a) (zn b) h = some (zn (Nat.gcd a b), h) := by
  apply wp_get
  refine pw2 (fun m x y => ∃ a' b', x = zn a' ∧ y = zn b' ∧ m = b' ∧ b' < 900000 ∧ a' < 1000000 ∧ Nat.gcd a' b' = Nat.gcd a b) ?_ fuel b (zn a) (zn b) (by unfold fuel; omega) ⟨a, b, rfl, rfl, rfl, hb, ha, rfl⟩
  rintro m x y R ⟨a', b', rfl, rfl, rfl, h1, h2, h3⟩ hr
  unfold f_X13_divisor_b4
  refine wp_ifq (zn0 (by omega)) ?_
  by_cases hd : m = 0
  · exact wp_ifp hd (wp_rt ⟨by rw [← h3, hd, Nat.gcd_zero_right], rfl⟩)
  · refine wp_ifn hd (wp_rq (by rw [zn0 (by omega)]; exact hd) (b_nm ?_))
    rw [irem_zn (by omega) (by omega)]
    have hlt := Nat.mod_lt a' (show m > 0 by omega)
    refine hr (a' % m) _ _ hlt ⟨m, a' % m, rfl, rfl, rfl, by omega, by omega, ?_⟩
    rw [← h3, Nat.gcd_comm m, ← Nat.gcd_rec, Nat.gcd_comm]
/-! primes -/
def isP (k : Nat) : Prop := ∀ d, d < k → 2 ≤ d → ¬ k % d = 0
def isPb (k : Nat) : Bool := (List.range k).all (fun d => decide (d < 2) || !(k % d == 0))
theorem isPb_iff (k : Nat) : isPb k = true ↔ isP k := by
  unfold isPb isP
  rw [List.all_eq_true]
  constructor
  · intro h d hd h2 h3
    have := h d (List.mem_range.mpr hd)
    simp at this
    omega
  · intro h d hd
    have := h d (List.mem_range.mp hd)
    simp
    omega
theorem t_isOddPrime {k : Nat} {h : Hp} (h1 : 3 ≤ k) (h2 : k ≤ 199) : f_X8_isOddPrime (zn k) h = some (zn (if isPb k then 1 else 0), h) := by
  apply wp_get
  unfold f_X8_isOddPrime
  refine wp_ifn (lt_f (b := 3) (by omega)) (wp_ifp (le_t (b := 199) (by omega)) ?_)
  refine pf1 (N := k) (fun i => 2 ≤ i ∧ ∀ d, d < i → 2 ≤ d → ¬ k % d = 0) ?_ ?_ (n := fuel) (k := 2) (by omega) (by unfold fuel; omega) ⟨by omega, fun d _ _ => by omega⟩
  · rintro i R hi ⟨hi2, hinv⟩ hr
    unfold f_X8_isOddPrime_b16
    refine wp_ifn (ge_f (by omega)) (wp_rq (by rw [zn0 (by omega)]; omega) ?_)
    rw [irem_zn (by omega) (by omega)]
    refine wp_ifq (not_congr (zn0 (Nat.lt_of_lt_of_le (Nat.mod_lt _ (by omega)) (show i ≤ 2147483648 by omega)))) ?_
    by_cases hm : k % i = 0
    · refine wp_ifn (fun q => q hm) (wp_rt ⟨?_, rfl⟩)
      rw [if_neg]
      · rfl
      · rw [isPb_iff]; exact fun q => q i hi hi2 hm
    · refine wp_ifp hm (hr ⟨by omega, fun d hd hd2 => ?_⟩)
      by_cases hdi : d = i
      · rw [hdi]; exact hm
      · exact hinv d (by omega) hd2
  · rintro R ⟨_, hinv⟩
    unfold f_X8_isOddPrime_b16
    refine wp_ifp (ge_t (by omega)) (wp_rt ⟨?_, rfl⟩)
    rw [if_pos]
    · rfl
    · rw [isPb_iff]; exact hinv
theorem isP_sq0 : (List.range 200).all (fun k => decide (k < 3) || (isPb k == (List.range 15).all (fun d => decide (d < 2) || decide (k < d * d) || !(k % d == 0)))) = true := by decide +kernel
theorem isP_sq (k : Nat) (hk : k < 200) (h3 : 3 ≤ k) : isPb k = true ↔ ∀ d, d < 15 → 2 ≤ d → d * d ≤ k → ¬ k % d = 0 := by
  have h1 := List.all_eq_true.mp isP_sq0 k (List.mem_range.mpr hk)
  simp only [Bool.or_eq_true, decide_eq_true_eq, beq_iff_eq] at h1
  rcases h1 with h1 | h1
  · omega
  · rw [h1, List.all_eq_true]
    constructor
    · intro h d hd h2 h3 h4
      have := h d (List.mem_range.mpr hd)
      simp at this
      omega
    · intro h d hd
      have := h d (List.mem_range.mp hd)
      simp
      omega
theorem t_isPrime {k : Nat} {h : Hp} (h1 : 3 ≤ k) (h2 : k ≤ 199) : f_X13_isPrime (zn k) h = some (zn (if isPb k then 1 else 0), h) := by
  apply wp_get
  have hsq := isP_sq k (by omega) h1
  unfold f_X13_isPrime
  refine pw1 (fun m x => ∃ i, x = zn i ∧ m = 15 - i ∧ 2 ≤ i ∧ i ≤ 15 ∧ ∀ d, d < i → 2 ≤ d → d * d ≤ k → ¬ k % d = 0) ?_ fuel 13 _ (by unfold fuel; omega) ⟨2, rfl, rfl, by omega, by omega, fun d _ _ => by omega⟩
  rintro m x R ⟨i, rfl, rfl, hi2, hi15, hinv⟩ hr
  unfold f_X13_isPrime_b2
  rw [zn_mul]
  have hii : i * i ≤ 225 := Nat.mul_le_mul hi15 hi15
  by_cases hc : i * i > k
  · refine wp_ifp (gt_t (by omega)) (wp_ifn (le_f (b := 1) (by omega)) (wp_rt ⟨?_, rfl⟩))
    rw [if_pos]
    · rfl
    · rw [hsq]
      intro d hd hd2 hdk
      refine hinv d ?_ hd2 hdk
      apply Nat.lt_of_not_le
      intro hle
      have := Nat.mul_le_mul hle hle
      omega
  · refine wp_ifn (gt_f (by omega)) (wp_rq (by rw [zn0 (by omega)]; omega) ?_)
    rw [irem_zn (by omega) (by omega)]
    refine wp_ifq (not_congr (zn0 (Nat.lt_of_lt_of_le (Nat.mod_lt _ (by omega)) (show i ≤ 2147483648 by omega)))) ?_
    have hi14 : i < 15 := by
      apply Nat.lt_of_not_le
      intro hle
      have := Nat.mul_le_mul hle hle
      omega
    by_cases hm : k % i = 0
    · refine wp_ifn (fun q => q hm) (wp_rt ⟨?_, rfl⟩)
      rw [if_neg]
      · rfl
      · rw [hsq]; exact fun q => q i hi14 hi2 (by omega) hm
    · refine wp_ifp hm ?_
      rw [zn_succ]
      refine hr (15 - (i + 1)) _ (by omega) ⟨i + 1, rfl, rfl, by omega, by omega, fun d hd hd2 hdk => ?_⟩
      by_cases hdi : d = i
      · rw [hdi]; exact hm
      · exact hinv d (by omega) hd2 hdk
theorem t_in {a b c : Int} {h : Hp} (ha : -2147483648 ≤ a ∧ a < 2147483648) (hb : -2147483648 ≤ b ∧ b < 2147483648) (hc : -2147483648 ≤ c ∧ c < 2147483648) : f_X13_in (zi a) (zi b) (zi c) h = some (zn (if b ≤ a ∧ a ≤ c then 1 else 0), h) := by
  unfold f_X13_in
  by_cases h1 : a < b
  · rw [if_pos ((zi_lt ha.1 ha.2 hb.1 hb.2).mpr h1), if_neg (by omega)]; rfl
  · rw [if_neg (fun q => h1 ((zi_lt ha.1 ha.2 hb.1 hb.2).mp q))]
    by_cases h2 : c < a
    · rw [if_pos (show zi a > zi c from (zi_lt hc.1 hc.2 ha.1 ha.2).mpr h2), if_neg (by omega)]; rfl
    · rw [if_neg (fun q : zi a > zi c => h2 ((zi_lt hc.1 hc.2 ha.1 ha.2).mp q)), if_pos (by omega)]; rfl
theorem zi_rng (x : Int32) : -2147483648 ≤ x.toInt ∧ x.toInt < 2147483648 := ⟨Int32.le_toInt x, Int32.toInt_lt x⟩
theorem zi_ex (x : Int32) : ∃ v : Int, x = zi v ∧ -2147483648 ≤ v ∧ v < 2147483648 := ⟨x.toInt, (zi_self x).symm, zi_rng x⟩
/-- of any int: is it an odd prime up to 199? -/
def oddP (v : Int) : Bool := decide (3 ≤ v) && decide (v ≤ 199) && isPb v.toNat
theorem t_oddC {v : Int} {h : Hp} (hv : -2147483648 ≤ v ∧ v < 2147483648) : f_X8_isOddPrime (zi v) h = some (zn (if oddP v then 1 else 0), h) := by
  by_cases h1 : 3 ≤ v ∧ v ≤ 199
  · have e : zi v = zn v.toNat := by rw [zn_zi]; congr 1; omega
    rw [e, t_isOddPrime (by omega) (by omega)]
    simp [oddP, h1]
  · have : oddP v = false := by unfold oddP; simp; omega
    rw [this]
    unfold f_X8_isOddPrime
    by_cases h2 : v < 3
    · rw [if_pos (show zi v < (3 : Int32) from ilt_t (b := 3) (by omega))]; rfl
    · rw [if_neg (show ¬ zi v < (3 : Int32) from ilt_f (b := 3) (by omega)), if_neg (show ¬ zi v ≤ (199 : Int32) from ile_f (b := 199) (by omega))]; rfl
theorem t_oddR {v : Int} {h : Hp} (hv : -2147483648 ≤ v ∧ v < 2147483648) : f_X13_isOddPrime (zi v) h = some (zn (if oddP v then 1 else 0), h) := by
  apply wp_get
  unfold f_X13_isOddPrime
  refine b_eq (t_in (b := 3) (c := 199) hv (by omega) (by omega)) ?_
  by_cases h1 : 3 ≤ v ∧ v ≤ 199
  · rw [if_pos h1]
    refine wp_ifn (by decide) ?_
    have e : zi v = zn v.toNat := by rw [zn_zi]; congr 1; omega
    rw [e]
    refine b_eq (t_isPrime (by omega) (by omega)) ?_
    have e2 : oddP v = isPb v.toNat := by unfold oddP; simp [h1]
    rw [e2]
    by_cases hp : isPb v.toNat = true
    · rw [hp]; exact wp_ifn (by decide) (wp_rt ⟨rfl, rfl⟩)
    · rw [Bool.not_eq_true] at hp; rw [hp]; exact wp_ifp (by decide) (wp_rt ⟨rfl, rfl⟩)
  · rw [if_neg h1]
    have : oddP v = false := by unfold oddP; simp; omega
    rw [this]
    exact wp_ifp (by decide) (wp_rt ⟨rfl, rfl⟩)
