/-! ===== class numbers by sums and by forms; powers ===== -/
def sS (p : Nat) : Nat → Int
  | 0 => 0
  | k + 1 => sS p k + k * sg p ((k : Int) % p).toNat
theorem zn_zi_mul (a : Nat) (b : Int) : zn a * zi b = zi (a * b) := by rw [zn_zi, zi_mul]
theorem t_classBySums {p : Nat} {h : Hp} (hp : 3 ≤ p ∧ p < 1000) : f_X8_classBySums (zn p) h = some (zi (-(sS p p)) / zn p, h) := by
  apply wp_get
  unfold f_X8_classBySums f_X8_classBySums_l4
  refine pf2 (N := p) (fun k x => 1 ≤ k ∧ x = zi (sS p k)) ?_ ?_ (n := fuel) (k := 1) (by omega) (by unfold fuel; omega) ⟨by omega, ?_⟩
  · rintro k x R hk ⟨hk1, rfl⟩ hr
    unfold f_X8_classBySums_b4
    refine wp_ifn (ge_f (by omega)) ?_
    rw [zn_zi k]
    refine b_eq (t_signOf (by omega) (by omega)) (b_nm ?_)
    rw [zi_mul, zi_add, ← zn_zi]
    exact hr _ ⟨by omega, rfl⟩
  · rintro x R ⟨hk1, rfl⟩
    unfold f_X8_classBySums_b4
    refine wp_ifp (ge_t (by omega)) (wp_ifp (ge_t (b := 1) (by omega)) (wp_rq (by rw [zn0 (by omega)]; omega) (wp_rt ⟨?_, rfl⟩)))
    rw [zi_neg]
  · rfl
theorem t_classSumsR {p : Nat} {h : Hp} {o : Option Nat} {Q : Int32 → Hp → Prop} (hp : 3 ≤ p ∧ p < 1000) (hq : wp (mBd (mCk 11 o (f_X13_good o (zi (-(sS p p)) / zn p))) (fun r => mRt r)) Q h) : wp (f_X13_classSums_l41 o (zn p) 0 1) Q h := by
  unfold f_X13_classSums_l41
  refine pf2 (N := p) (fun k x => 1 ≤ k ∧ x = zi (-(sS p k))) ?_ ?_ (n := fuel) (k := 1) (by omega) (by unfold fuel; omega) ⟨by omega, ?_⟩
  · rintro k x R hk ⟨hk1, rfl⟩ hr
    unfold f_X13_classSums_b41
    refine wp_ifn (ge_f (by omega)) ?_
    rw [zn_zi k]
    refine b_eq (t_signOfR (by omega) (by omega)) (b_nm ?_)
    rw [zi_mul, zi_sub, ← zn_zi]
    refine hr _ ⟨by omega, ?_⟩
    show zi _ = zi (-(sS p k + _))
    congr 1
    omega
  · rintro x R ⟨hk1, rfl⟩
    unfold f_X13_classSums_b41
    exact wp_ifp (ge_t (by omega)) (wp_rq (by rw [zn0 (by omega)]; omega) hq)
  · rfl
/-! forms -/
def redN (a : Nat) (b : Int) (d : Nat) : Nat :=
  if (b.natAbs * b.natAbs + d) % (4 * a) = 0 ∧ ¬ (b.natAbs * b.natAbs + d) / (4 * a) < a ∧ ¬ ((b.natAbs * b.natAbs + d) / (4 * a) = a ∧ b < 0) ∧ Nat.gcd (Nat.gcd a b.natAbs) ((b.natAbs * b.natAbs + d) / (4 * a)) = 1 then 1 else 0
def cfI (a d : Nat) : Nat → Int → Nat → Nat
  | 0, _, acc => acc
  | n + 1, b, acc => cfI a d n (b + 1) (acc + redN a b d)
def cfO (d : Nat) : Nat → Nat → Nat → Nat
  | 0, _, acc => acc
  | n + 1, a, acc => if d < 3 * a * a then acc else cfO d n (a + 1) (cfI a d (2 * a) (1 - a) acc)
theorem zdiv_zn {a b : Nat} (ha : a < 2147483648) (hb : b < 2147483648) : zn a / zn b = zn (a / b) := by
  rw [zn_zi, zn_zi, zn_zi]
  have e : zi a / zi b = zi ((a : Int).tdiv b) := by
    unfold zi
    rw [Int32.ofInt_tdiv]
    all_goals first | (show _ ≤ _; decide) | (simp only [Int32.toInt_minValue, Int32.toInt_maxValue]; omega)
  rw [e]
  congr 1
theorem bb_zn {b : Int} {d : Nat} : zi b * zi b + zn d = zn (b.natAbs * b.natAbs + d) := by
  rw [zn_zi, zn_zi, zi_mul, zi_add]
  congr 1
  rw [Int.natCast_add, Int.natCast_mul, Int.natAbs_mul_self' b]
theorem bb_lt {b : Int} {d : Nat} (hb : b.natAbs ≤ 40) (hd : d ≤ 999) : b.natAbs * b.natAbs + d < 10000 := by
  have := Nat.mul_le_mul hb hb
  omega
theorem t_isReducedForm {a : Nat} {b : Int} {d : Nat} {h : Hp} (ha : 1 ≤ a ∧ a ≤ 19) (hb : b.natAbs ≤ 40) (hd : d ≤ 999) : f_X8_isReducedForm (zn a) (zi b) (zn (b.natAbs * b.natAbs + d)) h = some (zn (redN a b d), h) := by
  apply wp_get
  have hV := bb_lt (b := b) (d := d) hb hd
  have e4 : (4 : Int32) * zn a = zn (4 * a) := zn_mul 4 a
  have h40 : ¬ zn (4 * a) = 0 := by rw [zn0 (by omega)]; omega
  unfold f_X8_isReducedForm redN
  generalize b.natAbs * b.natAbs + d = V at hV ⊢
  rw [e4]
  refine wp_ifn (lt_f (b := 1) (by omega)) (wp_rq h40 ?_)
  have hlt := Nat.mod_lt V (show 4 * a > 0 by omega)
  have hdl := Nat.div_le_self V (4 * a)
  rw [irem_zn (by omega) (by omega)]
  refine wp_ifq (zn0 (by omega)) ?_
  by_cases h1 : V % (4 * a) = 0
  · refine wp_ifp h1 (wp_rq h40 (b_nm ?_))
    rw [zdiv_zn (by omega) (by omega)]
    generalize V / (4 * a) = c at hdl ⊢
    have tail : ¬ c < a → ¬ (c = a ∧ b < 0) → wp (f_X8_isReducedForm_j37 (zn a) (zi b) (zn c)) (fun r h' => r = zn (if V % (4 * a) = 0 ∧ ¬ c < a ∧ ¬ (c = a ∧ b < 0) ∧ Nat.gcd (Nat.gcd a b.natAbs) c = 1 then 1 else 0) ∧ h' = h) h := by
      intro h2 h3
      unfold f_X8_isReducedForm_j37
      have hg : Nat.gcd a b.natAbs ≤ a := Nat.le_of_dvd (by omega) (Nat.gcd_dvd_left _ _)
      have hg1 : 1 ≤ Nat.gcd a b.natAbs := Nat.gcd_pos_of_pos_left _ (by omega)
      refine b_eq (t_commonPart (by omega) (by omega)) ?_
      rw [zn_zi c]
      refine b_eq (t_commonPart (by omega) (by omega)) ?_
      rw [Int.natAbs_natCast]
      have hgl : Nat.gcd (Nat.gcd a b.natAbs) c ≤ Nat.gcd a b.natAbs := Nat.le_of_dvd (by omega) (Nat.gcd_dvd_left _ _)
      refine wp_ifq (not_congr (zn_inj (b := 1) (by omega) (by omega))) ?_
      by_cases h4 : Nat.gcd (Nat.gcd a b.natAbs) c = 1
      · exact wp_ifn (fun q => q h4) (wp_rt ⟨by rw [if_pos ⟨h1, h2, h3, h4⟩]; rfl, rfl⟩)
      · exact wp_ifp h4 (wp_rt ⟨by rw [if_neg (fun q => h4 q.2.2.2)]; rfl, rfl⟩)
    refine wp_ifq (zn_lt (by omega) (by omega)) ?_
    by_cases h2 : c < a
    · exact wp_ifp h2 (wp_rt ⟨by rw [if_neg (fun q => q.2.1 h2)]; rfl, rfl⟩)
    · refine wp_ifn h2 ?_
      refine wp_ifq (not_congr (zn_inj (by omega) (by omega))) ?_
      by_cases h3 : c = a
      · refine wp_ifn (fun q => q h3) ?_
        by_cases h4 : b < 0
        · exact wp_ifn (ige_f (b := 0) (by omega)) (wp_rt ⟨by rw [if_neg (fun q => q.2.2.1 ⟨h3, h4⟩)]; rfl, rfl⟩)
        · exact wp_ifp (ige_t (b := 0) (by omega)) (tail h2 (fun q => h4 q.2))
      · exact wp_ifp h3 (tail h2 (fun q => h3 q.1))
  · exact wp_ifn h1 (wp_rt ⟨by rw [if_neg (fun q => h1 q.1)]; rfl, rfl⟩)
theorem a_le {a d : Nat} (hd : d ≤ 999) (h : 3 * a * a ≤ d) : a ≤ 18 := by
  apply Nat.le_of_not_lt
  intro hl
  have : 3 * 19 * 19 ≤ 3 * a * a := Nat.mul_le_mul (Nat.mul_le_mul (Nat.le_refl _) hl) hl
  omega
theorem a3_le {a : Nat} (ha : a ≤ 30) : 3 * a * a ≤ 2700 := Nat.mul_le_mul (Nat.mul_le_mul (Nat.le_refl 3) ha) ha
theorem t_cfIC {a d : Nat} {h : Hp} {K : Int32 → Int32 → Mo Int32} {Q : Int32 → Hp → Prop} {acc : Nat} (ha : 1 ≤ a ∧ a ≤ 19) (hd : d ≤ 999) (hq : wp (K (zn (cfI a d (2 * a) (1 - a) acc)) (zn a + 1)) Q h) : wp (f_X8_classByForms_l22 K (zn d) (zn a) (zn acc) (zi (1 - a))) Q h := by
  unfold f_X8_classByForms_l22
  refine pw2 (fun m x y => ∃ (b : Int) (ac : Nat), x = zn ac ∧ y = zi b ∧ b + m = a + 1 ∧ 1 - a ≤ b ∧ cfI a d m b ac = cfI a d (2 * a) (1 - a) acc) ?_ fuel (2 * a) _ _ (by unfold fuel; omega) ⟨1 - a, acc, rfl, rfl, by omega, by omega, rfl⟩
  rintro m x y R ⟨b, ac, rfl, rfl, hb, hb1, he⟩ hr
  unfold f_X8_classByForms_b22
  cases m with
  | zero =>
    refine wp_ifp (show zi b > zn a by rw [zn_zi]; exact igt_t (by omega)) ?_
    rw [← he] at hq
    exact hq
  | succ m =>
    refine wp_ifn (show ¬ zi b > zn a by rw [zn_zi]; exact igt_f (by omega)) ?_
    rw [bb_zn]
    refine b_eq (t_isReducedForm ha (by omega) hd) ?_
    have hs : zi b + 1 = zi (b + 1) := zi_add b 1
    have hn : redN a b d = 0 ∨ redN a b d = 1 := by unfold redN; split <;> simp
    have he' : cfI a d m (b + 1) (ac + redN a b d) = cfI a d (2 * a) (1 - a) acc := he
    rcases hn with hn | hn
    · rw [hn] at he' ⊢
      refine wp_ifp (by decide) ?_
      rw [hs]
      exact hr m _ _ (by omega) ⟨b + 1, ac, rfl, rfl, by omega, by omega, he'⟩
    · rw [hn] at he' ⊢
      refine wp_ifn (by decide) ?_
      rw [hs, zn_succ]
      exact hr m _ _ (by omega) ⟨b + 1, ac + 1, rfl, rfl, by omega, by omega, he'⟩
theorem t_classByForms {d : Nat} {h : Hp} (hd : d ≤ 999) : f_X8_classByForms (zn d) h = some (zn (cfO d 20 1 0), h) := by
  apply wp_get
  unfold f_X8_classByForms f_X8_classByForms_l4
  refine pw2 (fun m x y => ∃ (a ac : Nat), x = zn ac ∧ y = zn a ∧ a + m = 21 ∧ 1 ≤ a ∧ cfO d m a ac = cfO d 20 1 0) ?_ fuel 20 _ _ (by unfold fuel; omega) ⟨1, 0, rfl, rfl, by omega, by omega, rfl⟩
  rintro m x y R ⟨a, ac, rfl, rfl, hm, ha, he⟩ hr
  have h3 := a3_le (show a ≤ 30 by omega)
  unfold f_X8_classByForms_b4
  rw [show (3 : Int32) * zn a * zn a = zn (3 * a * a) from by rw [← zn_mul, ← zn_mul]; rfl]
  by_cases hc : d < 3 * a * a
  · refine wp_ifp (gt_t (by omega)) (wp_rt ⟨?_, rfl⟩)
    rw [← he]
    cases m with
    | zero => rfl
    | succ m => unfold cfO; rw [if_pos hc]
  · have ha18 := a_le hd (show 3 * a * a ≤ d by omega)
    have had : a ≤ d := by
      have : 3 * 1 * a ≤ 3 * a * a := Nat.mul_le_mul (Nat.mul_le_mul (Nat.le_refl _) ha) (Nat.le_refl _)
      omega
    refine wp_ifn (gt_f (by omega)) (wp_ifn (gt_f (by omega)) (b_nm ?_))
    rw [show (1 : Int32) - zn a = zi (1 - a) from by rw [zn_zi]; exact zi_sub 1 a]
    cases m with
    | zero => omega
    | succ m =>
      refine t_cfIC (by omega) hd ?_
      rw [zn_succ]
      refine hr m _ _ (by omega) ⟨a + 1, _, rfl, rfl, by omega, by omega, ?_⟩
      rw [← he]
      show _ = (if _ then _ else _)
      rw [if_neg hc]
theorem t_cfIR {a d : Nat} {h : Hp} {o : Option Nat} {K : Int32 → Int32 → Mo Int32} {Q : Int32 → Hp → Prop} {acc : Nat} (ha : 1 ≤ a ∧ a ≤ 19) (hd : d ≤ 999) (hq : wp (K (zn (cfI a d (2 * a) (1 - a) acc)) (zn a + 1)) Q h) : wp (f_X13_classForms_l53 K o (zn d) (zn a) (zn acc) (zi (1 - a))) Q h := by
  unfold f_X13_classForms_l53
  refine pw2 (fun m x y => ∃ (b : Int) (ac : Nat), x = zn ac ∧ y = zi b ∧ b + m = a + 1 ∧ 1 - a ≤ b ∧ cfI a d m b ac = cfI a d (2 * a) (1 - a) acc) ?_ fuel (2 * a) _ _ (by unfold fuel; omega) ⟨1 - a, acc, rfl, rfl, by omega, by omega, rfl⟩
  rintro m x y R ⟨b, ac, rfl, rfl, hb, hb1, he⟩ hr
  unfold f_X13_classForms_b53
  cases m with
  | zero =>
    refine wp_ifp (show zi b > zn a by rw [zn_zi]; exact igt_t (by omega)) ?_
    rw [← he] at hq
    exact hq
  | succ m =>
    refine wp_ifn (show ¬ zi b > zn a by rw [zn_zi]; exact igt_f (by omega)) ?_
    have hV := bb_lt (b := b) (d := d) (by omega) hd
    have he' : cfI a d m (b + 1) (ac + redN a b d) = cfI a d (2 * a) (1 - a) acc := he
    have hs : zi b + 1 = zi (b + 1) := zi_add b 1
    have e4 : (4 : Int32) * zn a = zn (4 * a) := zn_mul 4 a
    have h40 : ¬ zn (4 * a) = 0 := by rw [zn0 (by omega)]; omega
    rw [bb_zn, e4]
    unfold redN at he'
    generalize b.natAbs * b.natAbs + d = V at hV he' ⊢
    refine wp_rq h40 ?_
    have hlt := Nat.mod_lt V (show 4 * a > 0 by omega)
    have hdl := Nat.div_le_self V (4 * a)
    rw [irem_zn (by omega) (by omega)]
    refine wp_ifq (zn0 (by omega)) ?_
    by_cases h1 : V % (4 * a) = 0
    · refine wp_ifp h1 (wp_rq h40 (b_nm ?_))
      rw [zdiv_zn (by omega) (by omega)]
      generalize V / (4 * a) = c at hdl he' ⊢
      have tail : ¬ c < a → ¬ (c = a ∧ b < 0) → wp (f_X13_classForms_j109 K R o (zn d) (zn ac) (zn a) (zi b) (zn c)) Q h := by
        intro h2 h3
        have hx : ∀ s : Int32, s = zn b.natAbs → wp (f_X13_classForms_j124 K R o (zn d) (zn a) (zi b) (zn c) s (zn a) (zn ac)) Q h := by
          rintro s rfl
          unfold f_X13_classForms_j124
          have hg : Nat.gcd a b.natAbs ≤ a := Nat.le_of_dvd (by omega) (Nat.gcd_dvd_left _ _)
          have hg1 : 1 ≤ Nat.gcd a b.natAbs := Nat.gcd_pos_of_pos_left _ (by omega)
          refine b_eq (t_divisor (by omega) (by omega)) ?_
          refine b_eq (t_divisor (by omega) (by omega)) ?_
          have hgl : Nat.gcd (Nat.gcd a b.natAbs) c ≤ Nat.gcd a b.natAbs := Nat.le_of_dvd (by omega) (Nat.gcd_dvd_left _ _)
          refine wp_ifq (not_congr (zn_inj (b := 1) (by omega) (by omega))) ?_
          by_cases h4 : Nat.gcd (Nat.gcd a b.natAbs) c = 1
          · refine wp_ifn (fun q => q h4) (b_nm ?_)
            rw [if_pos ⟨h1, h2, h3, h4⟩] at he'
            rw [hs, zn_succ]
            exact hr m _ _ (by omega) ⟨b + 1, ac + 1, rfl, rfl, by omega, by omega, he'⟩
          · refine wp_ifp h4 (b_nm ?_)
            rw [if_neg (fun q => h4 q.2.2.2)] at he'
            rw [hs, show zn ac + (0 : Int32) = zn (ac + 0) from zn_add ac 0]
            exact hr m _ _ (by omega) ⟨b + 1, ac + 0, rfl, rfl, by omega, by omega, he'⟩
        unfold f_X13_classForms_j109
        by_cases hb0 : b < 0
        · exact wp_ifn (ige_f (b := 0) (by omega)) (hx _ (by rw [zi_neg, zn_zi]; congr 1; omega))
        · exact wp_ifp (ige_t (b := 0) (by omega)) (hx _ (by rw [zn_zi]; congr 1; omega))
      have skip' : ∀ P : Prop, [Decidable P] → ¬ P → cfI a d m (b + 1) (ac + if P then 1 else 0) = cfI a d (2 * a) (1 - a) acc → wp (R (zn ac) (zi b + 1)) Q h := by
        intro P _ hP h0
        rw [if_neg hP] at h0
        rw [hs]
        exact hr m _ _ (by omega) ⟨b + 1, ac, rfl, rfl, by omega, by omega, h0⟩
      refine wp_ifq (zn_lt (by omega) (by omega)) ?_
      by_cases h2 : c < a
      · exact wp_ifp h2 (skip' _ (fun q => q.2.1 h2) he')
      · refine wp_ifn h2 ?_
        refine wp_ifq (not_congr (zn_inj (by omega) (by omega))) ?_
        by_cases h3 : c = a
        · refine wp_ifn (fun q => q h3) ?_
          by_cases h4 : b < 0
          · exact wp_ifn (ige_f (b := 0) (by omega)) (skip' _ (fun q => q.2.2.1 ⟨h3, h4⟩) he')
          · exact wp_ifp (ige_t (b := 0) (by omega)) (tail h2 (fun q => h4 q.2))
        · exact wp_ifp h3 (tail h2 (fun q => h3 q.1))
    · refine wp_ifn h1 ?_
      rw [if_neg (fun q => h1 q.1)] at he'
      rw [hs]
      exact hr m _ _ (by omega) ⟨b + 1, ac, rfl, rfl, by omega, by omega, he'⟩
theorem t_classFormsR {d : Nat} {h : Hp} {o : Option Nat} {Q : Int32 → Hp → Prop} (hd : d ≤ 999) (hq : wp (mBd (mCk 11 o (f_X13_good o (zn (cfO d 20 1 0)))) (fun r => mRt r)) Q h) : wp (f_X13_classForms_j35 o (zn d)) Q h := by
  unfold f_X13_classForms_j35 f_X13_classForms_l39
  refine pw2 (fun m x y => ∃ (a ac : Nat), x = zn ac ∧ y = zn a ∧ a + m = 21 ∧ 1 ≤ a ∧ cfO d m a ac = cfO d 20 1 0) ?_ fuel 20 _ _ (by unfold fuel; omega) ⟨1, 0, rfl, rfl, by omega, by omega, rfl⟩
  rintro m x y R ⟨a, ac, rfl, rfl, hm, ha, he⟩ hr
  have h3 := a3_le (show a ≤ 30 by omega)
  unfold f_X13_classForms_b39
  rw [show (3 : Int32) * zn a * zn a = zn (3 * a * a) from by rw [← zn_mul, ← zn_mul]; rfl]
  by_cases hc : d < 3 * a * a
  · refine wp_ifp (gt_t (by omega)) ?_
    have e : ac = cfO d 20 1 0 := by
      rw [← he]
      cases m with
      | zero => rfl
      | succ m => unfold cfO; rw [if_pos hc]
    rw [e]; exact hq
  · have ha18 := a_le hd (show 3 * a * a ≤ d by omega)
    refine wp_ifn (gt_f (by omega)) (b_nm ?_)
    rw [show (1 : Int32) - zn a = zi (1 - a) from by rw [zn_zi]; exact zi_sub 1 a]
    cases m with
    | zero => omega
    | succ m =>
      refine t_cfIR (by omega) hd ?_
      rw [zn_succ]
      refine hr m _ _ (by omega) ⟨a + 1, _, rfl, rfl, by omega, by omega, ?_⟩
      rw [← he]
      show _ = (if _ then _ else _)
      rw [if_neg hc]
/-! powers modulo p -/
theorem t_raised {b u p : Nat} {h : Hp} (hp : 2 ≤ p ∧ p ≤ 199) (hb : b < 1000) (hu : u < 100000) : f_X13_raised (zn b) (zn u) (zn p) h = some (zn (b ^ u % p), h) := by
  apply wp_get
  unfold f_X13_raised f_X13_raised_l5
  refine pf2 (N := u) (fun k x => x = zn (b ^ k % p)) ?_ ?_ (n := fuel) (k := 0) (by omega) (by unfold fuel; omega) (by rw [Nat.pow_zero, Nat.mod_eq_of_lt (by omega)]; rfl)
  · rintro k x R hk rfl hr
    unfold f_X13_raised_b5
    refine wp_ifn (ge_f (by omega)) (wp_rq (by rw [zn0 (by omega)]; omega) (b_nm ?_))
    have hlt := Nat.mod_lt (b ^ k) (show p > 0 by omega)
    have hm : b ^ k % p * b ≤ 199 * 1000 := Nat.mul_le_mul (by omega) (by omega)
    rw [zn_mul, irem_zn (by omega) (by omega)]
    refine hr _ ?_
    rw [Nat.pow_succ, Nat.mod_mul_mod]
  · rintro x R rfl
    unfold f_X13_raised_b5
    exact wp_ifp (ge_t (by omega)) (wp_rt ⟨rfl, rfl⟩)
