/-! ===== logs, units, meetings, ranks, evenness ===== -/
def isPw (p n x : Nat) : Bool := lg p x % n == 0
def cnP (p n : Nat) : Nat → Nat
  | 0 => 0
  | x + 1 => cnP p n x + (if 1 ≤ x ∧ isPw p n x = true then 1 else 0)
def ledS (p n : Nat) (r : Int32) : Option Nat := fd (fun x => isPw p n x && decide (zn (cnP p n x) = r)) (p - 1) 1
def mtc (p n : Nat) (i j : Int32) : Nat → Nat
  | 0 => 0
  | x + 1 => mtc p n i j x + (if 1 ≤ x ∧ zn (lg p x % n) = i ∧ zn (lg p (x + 1) % n) = j then 1 else 0)
def unit (n : Nat) (v : Int) : Bool := decide (0 < v) && decide (v < n) && (Nat.gcd v.toNat n == 1)
def b01 (b : Bool) : Int32 := zn (if b then 1 else 0)
theorem b01_t : b01 true = 1 := rfl
theorem b01_f : b01 false = 0 := rfl
section
variable {β : Type} {K : List (Nat × Nat)} {I : Nat → Nat → Int32} {J : Nat → Nat → Int64} {A : Nat → Nat → Option Nat}
theorem t_logOf {a p n x : Nat} (hF : FS K A a) (hC : FC I a p n) (hpn : pn p n) (h1 : 1 ≤ x) (h2 : x < p) : f_X2_logOf (some a) (zn x) (K, I, J, A) = some (zn (lg p x), (K, I, J, A)) := by
  apply wp_get
  obtain ⟨hk, ⟨hA0, hA1, hA2⟩, ⟨hk1, hk2, hk3⟩, ha⟩ := hF
  obtain ⟨c1, c2, c3, c4⟩ := hC
  have hr := pn_rng hpn
  unfold f_X2_logOf
  refine b_getA hk hA0 (b_eq (t_cellp hk1 (by omega) (by omega)) (wp_rt ⟨c4 x h1 h2, rfl⟩))
theorem t_hasTurn {a p n : Nat} {v : Int} (hF : FS K A a) (hC : FC I a p n) (hpn : pn p n) (hv : -2147483648 ≤ v ∧ v < 2147483648) : f_X2_hasTurn (some a) (zi v) (K, I, J, A) = some (b01 (unit n v), (K, I, J, A)) := by
  apply wp_get
  obtain ⟨hk, ⟨hA0, hA1, hA2⟩, ⟨hk1, hk2, hk3⟩, ha⟩ := hF
  obtain ⟨c1, c2, c3, c4⟩ := hC
  have hr := pn_rng hpn
  unfold f_X2_hasTurn
  by_cases h1 : v ≤ 0
  · refine wp_ifp (ile_t (b := 0) (by omega)) (wp_rt ⟨?_, rfl⟩)
    rw [show unit n v = false from by unfold unit; simp; omega]; rfl
  · refine wp_ifn (ile_f (b := 0) (by omega)) (b_getIv hk c2 ?_)
    rw [zn_zi n]
    by_cases h2 : (n : Int) ≤ v
    · refine wp_ifp (ige_t (by omega)) (wp_rt ⟨?_, rfl⟩)
      rw [show unit n v = false from by unfold unit; simp; omega]; rfl
    · refine wp_ifn (ige_f (by omega)) (b_getIv hk c2 ?_)
      have e : zi v = zn v.toNat := by rw [zn_zi]; congr 1; omega
      rw [e, zn_zi n]
      refine b_eq (t_commonPart (by omega) (by omega)) ?_
      rw [Int.natAbs_natCast]
      have hg : Nat.gcd v.toNat n ≤ n := Nat.le_of_dvd (by omega) (Nat.gcd_dvd_right _ _)
      refine wp_ifq (not_congr (zn_inj (b := 1) (by omega) (by omega))) ?_
      by_cases h3 : Nat.gcd v.toNat n = 1
      · refine wp_ifn (fun q => q h3) (wp_rt ⟨?_, rfl⟩)
        rw [show unit n v = true from by unfold unit; simp [h3]; omega]; rfl
      · refine wp_ifp h3 (wp_rt ⟨?_, rfl⟩)
        rw [show unit n v = false from by unfold unit; simp [h3]]; rfl
theorem t_isUnit {f p n : Nat} {v : Int} (hF : RFS K A f) (hC : RFC I J f p n) (hpn : pn p n) (hv : -2147483648 ≤ v ∧ v < 2147483648) : f_X12_isUnit (some f) (zi v) (K, I, J, A) = some (b01 (unit n v), (K, I, J, A)) := by
  apply wp_get
  obtain ⟨f0, ⟨fa4, fa5⟩, ⟨fk1, fk2⟩, hf⟩ := hF
  obtain ⟨⟨c1, c2, c3, c4⟩, c5, c6⟩ := hC
  have hr := pn_rng hpn
  unfold f_X12_isUnit
  refine b_getIv f0 c2 ?_
  rw [zn_pred1 (by omega), zn_zi (n - 1)]
  refine b_eq (t_in (b := 1) hv (by omega) (by omega)) ?_
  by_cases h : 1 ≤ v ∧ v ≤ ((n - 1 : Nat) : Int)
  · rw [if_pos h]
    refine wp_ifn (by decide) (b_getIv f0 c2 ?_)
    have e : zi v = zn v.toNat := by rw [zn_zi]; congr 1; omega
    rw [e]
    refine b_eq (t_divisor (by omega) (by omega)) ?_
    rw [Nat.gcd_comm]
    have hg : Nat.gcd v.toNat n ≤ n := Nat.le_of_dvd (by omega) (Nat.gcd_dvd_right _ _)
    refine wp_ifq (not_congr (zn_inj (b := 1) (by omega) (by omega))) ?_
    by_cases h3 : Nat.gcd v.toNat n = 1
    · refine wp_ifn (fun q => q h3) (wp_rt ⟨?_, rfl⟩)
      rw [show unit n v = true from by unfold unit; simp [h3]; omega]; rfl
    · refine wp_ifp h3 (wp_rt ⟨?_, rfl⟩)
      rw [show unit n v = false from by unfold unit; simp [h3]]; rfl
  · rw [if_neg h]
    refine wp_ifp (by decide) (wp_rt ⟨?_, rfl⟩)
    rw [show unit n v = false from by unfold unit; simp; omega]; rfl
theorem modn_eq {a n : Nat} {h : Hp} (hn : 2 ≤ n ∧ n ≤ 12) (ha : a < 1000) : f_X6_mod ((zn a).toInt64) (zn n) h = some (zn (a % n), h) := t_modn (zn_i64 (by omega)) (by omega) (by omega)
theorem t_isOrderPower {a p n x : Nat} (hF : FS K A a) (hC : FC I a p n) (hpn : pn p n) (h1 : 1 ≤ x) (h2 : x < p) : f_X2_isOrderPower (some a) (zn x) (K, I, J, A) = some (b01 (isPw p n x), (K, I, J, A)) := by
  apply wp_get
  have hr := pn_rng hpn
  have hl := lg_lt hpn.1 h1 h2
  unfold f_X2_isOrderPower
  refine b_ck hF.1 (b_eq (t_logOf hF hC hpn h1 h2) (b_getIv hF.1 hC.2.1 (b_eq (modn_eq (by omega) (by omega)) ?_)))
  have hm := Nat.mod_lt (lg p x) (show n > 0 by omega)
  refine wp_ifq (not_congr (zn0 (by omega))) ?_
  by_cases h : lg p x % n = 0
  · refine wp_ifn (fun q => q h) (wp_rt ⟨?_, rfl⟩)
    rw [show isPw p n x = true from by unfold isPw; simp [h]]; rfl
  · refine wp_ifp h (wp_rt ⟨?_, rfl⟩)
    rw [show isPw p n x = false from by unfold isPw; simp [h]]; rfl
theorem t_powerOfRank {a p n : Nat} {r : Int32} (hF : FS K A a) (hC : FC I a p n) (hpn : pn p n) : f_X2_powerOfRank (some a) r (K, I, J, A) = some (match ledS p n r with | some x => zn x | none => -1, (K, I, J, A)) := by
  apply wp_get
  have hr := pn_rng hpn
  unfold f_X2_powerOfRank f_X2_powerOfRank_l4
  refine pf2 (N := p) (fun x acc => 1 ≤ x ∧ acc = zn (cnP p n x) ∧ ∀ y, 1 ≤ y → y < x → (isPw p n y && decide (zn (cnP p n y) = r)) = false) ?_ ?_ (k := 1) (by omega) (by unfold fuel; omega) ⟨by omega, rfl, fun y _ _ => by omega⟩
  · rintro x acc R hx ⟨h1, rfl, hno⟩ hR
    unfold f_X2_powerOfRank_b4
    refine b_getIv hF.1 hC.1 (wp_ifn (ge_f (by omega)) (b_ck hF.1 (b_eq (t_isOrderPower hF hC hpn h1 hx) ?_)))
    have stepc : cnP p n (x + 1) = cnP p n x + (if 1 ≤ x ∧ isPw p n x = true then 1 else 0) := rfl
    cases hp : isPw p n x with
    | false =>
      refine wp_ifp rfl (hR _ ⟨by omega, ?_, fun y hy1 hy2 => ?_⟩)
      · rw [stepc, hp, if_neg (by simp)]; rfl
      · by_cases hyx : y = x
        · subst hyx; rw [hp]; rfl
        · exact hno y hy1 (by omega)
    | true =>
      refine wp_ifn (by decide) ?_
      by_cases he : zn (cnP p n x) = r
      · refine wp_ifn (fun q => q he) (wp_rt ⟨?_, rfl⟩)
        unfold ledS
        rw [fd_some (y := x) (by rw [hp]; simp [he]) (p - 1) 1 h1 (by omega) (fun y h1 h2 => hno y h1 h2)]
      · refine wp_ifp he (hR _ ⟨by omega, ?_, fun y hy1 hy2 => ?_⟩)
        · rw [zn_succ, stepc, hp, if_pos ⟨h1, rfl⟩]
        · by_cases hyx : y = x
          · subst hyx; rw [hp]; simp [he]
          · exact hno y hy1 (by omega)
  · rintro acc R ⟨h1, rfl, hno⟩
    unfold f_X2_powerOfRank_b4
    refine b_getIv hF.1 hC.1 (wp_ifp (ge_t (by omega)) (wp_rt ⟨?_, rfl⟩))
    unfold ledS
    rw [fd_none (p - 1) 1 (fun y hy1 hy2 => hno y hy1 (by omega))]
theorem t_meetings {a p n : Nat} {i j : Int32} (hF : FS K A a) (hC : FC I a p n) (hpn : pn p n) : f_X2_meetings (some a) i j (K, I, J, A) = some (zn (mtc p n i j (p - 1)), (K, I, J, A)) := by
  apply wp_get
  have hr := pn_rng hpn
  unfold f_X2_meetings f_X2_meetings_l5
  refine pf2 (N := p - 1) (fun x acc => 1 ≤ x ∧ acc = zn (mtc p n i j x)) ?_ ?_ (k := 1) (by omega) (by unfold fuel; omega) ⟨by omega, rfl⟩
  · rintro x acc R hx ⟨h1, rfl⟩ hR
    unfold f_X2_meetings_b5
    have hl1 := lg_lt hpn.1 h1 (show x < p by omega)
    have hl2 := lg_lt hpn.1 (show 1 ≤ x + 1 by omega) (show x + 1 < p by omega)
    have stepc : mtc p n i j (x + 1) = mtc p n i j x + (if 1 ≤ x ∧ zn (lg p x % n) = i ∧ zn (lg p (x + 1) % n) = j then 1 else 0) := rfl
    refine b_getIv hF.1 hC.1 ?_
    rw [zn_pred1 (by omega)]
    refine wp_ifn (ge_f (by omega)) (b_ck hF.1 (b_eq (t_logOf hF hC hpn h1 (by omega)) (b_getIv hF.1 hC.2.1 (b_eq (modn_eq (by omega) (by omega)) ?_))))
    by_cases he1 : zn (lg p x % n) = i
    · refine wp_ifn (fun q => q he1) ?_
      rw [zn_succ]
      refine b_ck hF.1 (b_eq (t_logOf hF hC hpn (by omega) (by omega)) (b_getIv hF.1 hC.2.1 (b_eq (modn_eq (by omega) (by omega)) ?_)))
      by_cases he2 : zn (lg p (x + 1) % n) = j
      · refine wp_ifn (fun q => q he2) ?_
        rw [← zn_succ x]
        exact hR _ ⟨by omega, by rw [zn_succ, stepc, if_pos ⟨h1, he1, he2⟩]⟩
      · refine wp_ifp he2 ?_
        rw [← zn_succ x]
        exact hR _ ⟨by omega, by rw [stepc, if_neg (fun q => he2 q.2.2)]; rfl⟩
    · exact wp_ifp he1 (hR _ ⟨by omega, by rw [stepc, if_neg (fun q => he1 q.2.1)]; rfl⟩)
  · rintro acc R ⟨h1, rfl⟩
    unfold f_X2_meetings_b5
    refine b_getIv hF.1 hC.1 ?_
    rw [zn_pred1 (by omega)]
    exact wp_ifp (ge_t (by omega)) (wp_rt ⟨rfl, rfl⟩)
theorem t_meetsR {Q : Int32 → Hp → Prop} {m f p n : Nat} {i j : Int32} (hF : RFS K A f) (hC : RFC I J f p n) (hpn : pn p n) (hq : wp (mBd (mCk 11 (some m) (f_X13_good (some m) (zn (mtc p n i j (p - 1))))) (fun r => mRt r)) Q (K, I, J, A)) : wp (f_X13_meets_l38 (some m) i j (some f) 0 1) Q (K, I, J, A) := by
  obtain ⟨f0, ⟨fa4, fa5⟩, ⟨fk1, fk2⟩, hf⟩ := hF
  obtain ⟨⟨c1, c2, c3, c4⟩, c5, c6⟩ := hC
  have hr := pn_rng hpn
  have hn0 : ¬ zn n = 0 := by rw [zn0 (by omega)]; omega
  unfold f_X13_meets_l38
  refine pf2 (N := p - 1) (fun x acc => 1 ≤ x ∧ acc = zn (mtc p n i j x)) ?_ ?_ (k := 1) (by omega) (by unfold fuel; omega) ⟨by omega, rfl⟩
  · rintro x acc R hx ⟨h1, rfl⟩ hR
    unfold f_X13_meets_b38
    have hl1 := lg_lt hpn.1 h1 (show x < p by omega)
    have hl2 := lg_lt hpn.1 (show 1 ≤ x + 1 by omega) (show x + 1 < p by omega)
    have stepc : mtc p n i j (x + 1) = mtc p n i j x + (if 1 ≤ x ∧ zn (lg p x % n) = i ∧ zn (lg p (x + 1) % n) = j then 1 else 0) := rfl
    have skip : mtc p n i j (x + 1) = mtc p n i j x → wp (f_X13_meets_j94 R (some m) i j (some f) (zn x) (zn (mtc p n i j x))) Q (K, I, J, A) := by
      intro h0
      unfold f_X13_meets_j94
      refine b_nm (hR _ ⟨by omega, ?_⟩)
      rw [h0]
      exact zn_add _ 0
    refine b_getIv f0 c1 ?_
    rw [zn_pred1 (by omega)]
    refine wp_ifn (ge_f (by omega)) (b_getA f0 fa4 (b_ldI fk1 (by omega) (by omega) ?_))
    rw [c5 x h1 (by omega)]
    refine b_getIv f0 c2 (wp_rq hn0 ?_)
    rw [irem_zn (by omega) (by omega)]
    by_cases he1 : zn (lg p x % n) = i
    · refine wp_ifn (fun q => q he1) (b_getA f0 fa4 ?_)
      rw [zn_succ]
      refine b_ldI fk1 (by omega) (by omega) ?_
      rw [c5 (x + 1) (by omega) (by omega)]
      refine b_getIv f0 c2 (wp_rq hn0 ?_)
      rw [irem_zn (by omega) (by omega)]
      by_cases he2 : zn (lg p (x + 1) % n) = j
      · refine wp_ifn (fun q => q he2) (b_nm ?_)
        rw [← zn_succ x]
        exact hR _ ⟨by omega, by rw [zn_succ, stepc, if_pos ⟨h1, he1, he2⟩]⟩
      · exact wp_ifp he2 (skip (by rw [stepc, if_neg (fun q => he2 q.2.2)]; rfl))
    · exact wp_ifp he1 (skip (by rw [stepc, if_neg (fun q => he1 q.2.1)]; rfl))
  · rintro acc R ⟨h1, rfl⟩
    unfold f_X13_meets_b38
    refine b_getIv f0 c1 ?_
    rw [zn_pred1 (by omega)]
    exact wp_ifp (ge_t (by omega)) hq
/-! evenness: a count over pairs, either way round -/
def sm (f : Nat → Nat) : Nat → Nat
  | 0 => 0
  | k + 1 => sm f k + f k
theorem sm_congr {f g : Nat → Nat} : ∀ k, (∀ i, i < k → f i = g i) → sm f k = sm g k := by
  intro k
  induction k with
  | zero => intro _; rfl
  | succ k ih => intro h; show sm f k + f k = sm g k + g k; rw [ih (fun i hi => h i (by omega)), h k (by omega)]
theorem sm_zero : ∀ k, sm (fun _ => 0) k = 0 := by
  intro k
  induction k with
  | zero => rfl
  | succ k ih => show sm _ k + 0 = 0; rw [ih]
theorem sm_add (f g : Nat → Nat) : ∀ k, sm (fun i => f i + g i) k = sm f k + sm g k := by
  intro k
  induction k with
  | zero => rfl
  | succ k ih => show sm _ k + (f k + g k) = sm f k + f k + (sm g k + g k); rw [ih]; omega
theorem sm_swap (f : Nat → Nat → Nat) (b : Nat) : ∀ a, sm (fun x => sm (f x) b) a = sm (fun y => sm (fun x => f x y) a) b := by
  intro a
  induction a with
  | zero => show 0 = _; rw [show (fun y => sm (fun x => f x y) 0) = fun _ => 0 from rfl, sm_zero]
  | succ a ih =>
    show sm (fun x => sm (f x) b) a + sm (f a) b = sm (fun y => sm (fun x => f x y) a + f a y) b
    rw [ih, sm_add]
theorem sm_one {f : Nat → Nat} {x v : Nat} : ∀ k, x < k → f x = v → (∀ i, i < k → i ≠ x → f i = 0) → sm f k = v := by
  intro k
  induction k with
  | zero => intro h; omega
  | succ k ih =>
    intro hx hv h0
    show sm f k + f k = v
    by_cases h : x = k
    · subst h
      rw [hv, sm_congr x (g := fun _ => 0) (fun i hi => h0 i (by omega) (by omega)), sm_zero, Nat.zero_add]
    · rw [ih (by omega) hv (fun i hi hne => h0 i (by omega) hne), h0 k (by omega) (by omega), Nat.add_zero]
/-- a pair of powers whose difference is d -/
def evF (p n d x y : Nat) : Nat := if 1 ≤ x ∧ 1 ≤ y ∧ isPw p n x = true ∧ isPw p n y = true ∧ (x + p - y) % p = d then 1 else 0
def evC (p n d : Nat) : Nat := sm (fun x => sm (evF p n d x) p) p
def evG (p n d v : Nat) : Nat := if 1 ≤ v ∧ ¬ (v + d) % p = 0 ∧ isPw p n v = true ∧ isPw p n ((v + d) % p) = true then 1 else 0
theorem evC_eq {p n d : Nat} (hp : 1 ≤ p) (hd : 1 ≤ d ∧ d < p) : evC p n d = sm (evG p n d) p := by
  unfold evC
  rw [sm_swap]
  refine sm_congr p (fun v hv => ?_)
  have hm := Nat.mod_lt (v + d) hp
  have key : ∀ x, x < p → (x + p - v) % p = d → x = (v + d) % p := by
    intro x hx h
    by_cases h1 : v ≤ x
    · rw [show x + p - v = (x - v) + p by omega, Nat.add_mod_right, Nat.mod_eq_of_lt (by omega)] at h
      rw [show v + d = x by omega, Nat.mod_eq_of_lt hx]
    · rw [Nat.mod_eq_of_lt (by omega)] at h
      rw [show v + d = x + p by omega, Nat.add_mod_right, Nat.mod_eq_of_lt hx]
  have back : ((v + d) % p + p - v) % p = d := by
    by_cases h1 : v + d < p
    · rw [Nat.mod_eq_of_lt h1, show v + d + p - v = d + p by omega, Nat.add_mod_right, Nat.mod_eq_of_lt hd.2]
    · have h6 : (v + d) % p = v + d - p := by rw [Nat.mod_eq_sub_mod (show p ≤ v + d by omega), Nat.mod_eq_of_lt (by omega)]
      rw [h6, show v + d - p + p - v = d by omega, Nat.mod_eq_of_lt hd.2]
  by_cases h0 : (v + d) % p = 0
  · refine (sm_congr p (g := fun _ => 0) (fun x hx => ?_)).trans ((sm_zero p).trans ?_)
    · unfold evF
      rw [if_neg]
      rintro ⟨h1, h2, h3, h4, h5⟩
      have := key x hx h5
      omega
    · unfold evG; rw [if_neg (fun q => q.2.1 h0)]
  · refine sm_one (x := (v + d) % p) p hm ?_ (fun x hx hne => ?_)
    · unfold evF evG
      by_cases hc : 1 ≤ v ∧ isPw p n v = true ∧ isPw p n ((v + d) % p) = true
      · rw [if_pos ⟨by omega, hc.1, hc.2.2, hc.2.1, back⟩, if_pos ⟨hc.1, h0, hc.2.1, hc.2.2⟩]
      · rw [if_neg (fun q => hc ⟨q.2.1, q.2.2.2.1, q.2.2.1⟩), if_neg (fun q => hc ⟨q.1, q.2.2.1, q.2.2.2⟩)]
    · unfold evF
      rw [if_neg (fun q => hne (key x hx q.2.2.2.2))]
theorem sm_le {f : Nat → Nat} : ∀ k, (∀ i, i < k → f i ≤ 1) → sm f k ≤ k := by
  intro k
  induction k with
  | zero => intro _; exact Nat.le_refl _
  | succ k ih =>
    intro h
    have h1 := ih (fun i hi => h i (by omega))
    have h2 := h k (by omega)
    show sm f k + f k ≤ k + 1
    omega
theorem evC_le {p n d : Nat} (hp : 1 ≤ p) (hd : 1 ≤ d ∧ d < p) : evC p n d ≤ p := by
  rw [evC_eq hp hd]
  refine sm_le p (fun i _ => ?_)
  unfold evG; split <;> omega
def evS (p n : Nat) : Int32 := if (fd (fun d => decide (¬ evC p n d = evC p n 1)) (p - 2) 2).isNone then zn (evC p n 1) else -2
theorem evS_t {p n : Nat} (h : ∀ d, 2 ≤ d → d < p → evC p n d = evC p n 1) : evS p n = zn (evC p n 1) := by
  unfold evS
  rw [fd_none (p - 2) 2 (fun d h1 h2 => by simp [h d h1 (by omega)])]; rfl
theorem evS_f {p n d : Nat} (h1 : 2 ≤ d) (h2 : d < p) (h : ¬ evC p n d = evC p n 1) (h0 : ∀ e, 2 ≤ e → e < d → evC p n e = evC p n 1) : evS p n = -2 := by
  unfold evS
  rw [fd_some (y := d) (by simp [h]) (p - 2) 2 h1 (by omega) (fun e h3 h4 => by simp [h0 e h3 h4])]; rfl
theorem subm {p x y : Nat} (hx : x < p) (hy : y < p) : (((x : Int) - (y : Int)) % (p : Int)).toNat = (x + p - y) % p := by
  have : ((x : Int) - (y : Int)) % (p : Int) = ((x + p - y : Nat) : Int) % p := by
    rw [show ((x + p - y : Nat) : Int) = ((x : Int) - y) + p by omega, Int.add_emod_right]
  rw [this]
  omega
theorem t_evenness {Q : Int32 → Hp → Prop} {a p n : Nat} (hF : FS K A a) (hC : FC I a p n) (hpn : pn p n) (q : ∀ I', (∀ b, b ≠ a + 3 → I' b = I b) → Q (evS p n) (K, I', J, A)) : wp (f_X2_evenness (some a)) Q (K, I, J, A) := by
  have hr := pn_rng hpn
  have hF' := hF
  obtain ⟨hk, ⟨hA0, hA1, hA2⟩, ⟨hk1, hk2, hk3⟩, ha⟩ := hF'
  have keep : ∀ I' : Nat → Nat → Int32, (∀ b, b ≠ a + 3 → I' b = I b) → FC I' a p n := by
    intro I' h
    obtain ⟨c1, c2, c3, c4⟩ := hC
    exact ⟨by rw [h a (by omega)]; exact c1, by rw [h a (by omega)]; exact c2, fun e he => by rw [h (a + 2) (by omega)]; exact c3 e he, fun x h1 h2 => by rw [h (a + 1) (by omega)]; exact c4 x h1 h2⟩
  have last : ∀ I' : Nat → Nat → Int32, (∀ b, b ≠ a + 3 → I' b = I b) → (∀ d, d < p → I' (a + 3) d = zn (evC p n d)) → wp (mBd (mGetA 2 2 (some a)) (fun r3 => mBd (f_X6_cell r3 (1 : Int32)) (fun r4 => f_X2_evenness_l114 (some a) r4 (2 : Int32)))) Q (K, I', J, A) := by
    intro I' hf hv
    have hC' := keep I' hf
    refine b_getA hk hA2 (b_eq (t_cellp (j := 1) hk3 (by omega) (by omega)) ?_)
    rw [hv 1 (by omega)]
    unfold f_X2_evenness_l114
    refine pf1 (N := p) (fun d => 2 ≤ d ∧ ∀ e, 2 ≤ e → e < d → evC p n e = evC p n 1) ?_ ?_ (k := 2) (by omega) (by unfold fuel; omega) ⟨by omega, fun e _ _ => by omega⟩
    · rintro d R hd ⟨h2, hall⟩ hR
      unfold f_X2_evenness_b114
      refine b_getIv hk hC'.1 (wp_ifn (ge_f (by omega)) (b_getA hk hA2 (b_eq (t_cellp hk3 (by omega) (by omega)) ?_)))
      rw [hv d hd]
      have hl1 := evC_le (n := n) (show 1 ≤ p by omega) (show 1 ≤ d ∧ d < p by omega)
      have hl2 := evC_le (n := n) (show 1 ≤ p by omega) (show 1 ≤ 1 ∧ 1 < p by omega)
      refine wp_ifq (zn_inj (by omega) (by omega)) ?_
      by_cases he : evC p n d = evC p n 1
      · refine wp_ifp he (hR ⟨by omega, fun e h3 h4 => ?_⟩)
        by_cases hed : e = d
        · rw [hed]; exact he
        · exact hall e h3 (by omega)
      · refine wp_ifn he (wp_rt ?_)
        have := q I' hf
        rw [evS_f h2 hd he hall] at this
        exact this
    · rintro R ⟨h2, hall⟩
      unfold f_X2_evenness_b114
      refine b_getIv hk hC'.1 (wp_ifp (ge_t (by omega)) (wp_rt ?_))
      have := q I' hf
      rw [evS_t (fun d h1 h2 => hall d h1 h2)] at this
      exact this
  unfold f_X2_evenness f_X2_evenness_l2
  refine for1 (N := p) (fun k I' J' => J' = J ∧ (∀ b, b ≠ a + 3 → I' b = I b) ∧ ∀ d, d < k → I' (a + 3) d = zn 0) ?_ ?_ (k := 0) (by omega) (by unfold fuel; omega) ⟨rfl, fun b _ => rfl, fun d _ => by omega⟩
  · rintro k I' J' R hk' ⟨rfl, hf, hv⟩ hR
    unfold f_X2_evenness_b2
    refine b_getIv hk (keep I' hf).1 (wp_ifn (ge_f (by omega)) (b_getA hk hA2 (b_eq (t_mark hk3 (by omega) (by omega) (by omega)) (hR _ _ ⟨rfl, fun b hb => ?_, fun d hd => ?_⟩))))
    · rw [st2_nb hb]; exact hf b hb
    · by_cases h : d = k
      · subst h; exact st2_at
      · rw [st2_nk h]; exact hv d (by omega)
  · rintro I1 J1 R ⟨rfl, hf1, hv1⟩
    unfold f_X2_evenness_b2
    refine b_getIv hk (keep I1 hf1).1 (wp_ifp (ge_t (by omega)) ?_)
    unfold f_X2_evenness_l27
    refine for1 (N := p) (fun x I' J' => J' = J1 ∧ 1 ≤ x ∧ (∀ b, b ≠ a + 3 → I' b = I b) ∧ ∀ d, d < p → I' (a + 3) d = zn (sm (fun x => sm (evF p n d x) p) x)) ?_ ?_ (k := 1) (by omega) (by unfold fuel; omega) ⟨rfl, by omega, hf1, fun d hd => ?_⟩
    · rintro x I' J' R2 hx ⟨rfl, h1, hf, hv⟩ hR2
      have hC' := keep I' hf
      unfold f_X2_evenness_b27
      refine b_getIv hk hC'.1 (wp_ifn (ge_f (by omega)) ?_)
      unfold f_X2_evenness_l37
      refine for1 (N := p) (fun y I'' J'' => J'' = J' ∧ 1 ≤ y ∧ (∀ b, b ≠ a + 3 → I'' b = I b) ∧ ∀ d, d < p → I'' (a + 3) d = zn (sm (fun x => sm (evF p n d x) p) x + sm (evF p n d x) y)) ?_ ?_ (k := 1) (by omega) (by unfold fuel; omega) ⟨rfl, by omega, hf, fun d hd => ?_⟩
      · rintro y I'' J'' R3 hy ⟨rfl, h2, hf2, hv2⟩ hR3
        have hC2 := keep I'' hf2
        unfold f_X2_evenness_b37
        refine b_getIv hk hC2.1 (wp_ifn (ge_f (by omega)) (b_ck hk (b_eq (t_isOrderPower hF hC2 hpn h1 hx) ?_)))
        cases hpx : isPw p n x with
        | false =>
          refine wp_ifp rfl (hR2 _ _ ⟨rfl, by omega, hf2, fun d hd => ?_⟩)
          have z : ∀ k, sm (evF p n d x) k = 0 := fun k => (sm_congr k (g := fun _ => 0) (fun i _ => by unfold evF; rw [if_neg (fun q => by rw [hpx] at q; exact absurd q.2.2.1 (by decide))])).trans (sm_zero k)
          rw [hv2 d hd, z]
          show _ = zn (sm _ x + sm (evF p n d x) p)
          rw [z]
        | true =>
          refine wp_ifn (by decide) (b_ck hk (b_eq (t_isOrderPower hF hC2 hpn h2 hy) ?_))
          have stepy : ∀ d, sm (evF p n d x) (y + 1) = sm (evF p n d x) y + evF p n d x y := fun d => rfl
          cases hpy : isPw p n y with
          | false =>
            refine wp_ifp rfl (hR3 _ _ ⟨rfl, by omega, hf2, fun d hd => ?_⟩)
            rw [hv2 d hd, stepy, show evF p n d x y = 0 from by unfold evF; rw [if_neg (fun q => by rw [hpy] at q; exact absurd q.2.2.2.1 (by decide))]]
            rfl
          | true =>
            refine wp_ifn (by decide) (b_getIv hk hC2.1 ?_)
            rw [show zn x - zn y = zi ((x : Int) - (y : Int)) from by rw [zn_zi, zn_zi]; exact zi_sub _ _]
            refine b_eq (t_mod (zj_zi (by omega) (by omega)) (by omega) (by omega)) ?_
            rw [subm hx hy]
            have hm := Nat.mod_lt (x + p - y) (show p > 0 by omega)
            refine b_getA hk hA2 (b_getA hk hA2 (b_eq (t_cellp hk3 (by omega) (by omega)) (b_eq (t_mark hk3 (by omega) (by omega) (by omega)) (hR3 _ _ ⟨rfl, by omega, fun b hb => ?_, fun d hd => ?_⟩))))
            · rw [st2_nb hb]; exact hf2 b hb
            · by_cases h : d = (x + p - y) % p
              · subst h
                rw [st2_at, hv2 _ hd, zn_succ, stepy, show evF p n ((x + p - y) % p) x y = 1 from by unfold evF; rw [if_pos ⟨h1, h2, hpx, hpy, rfl⟩]]
                rfl
              · rw [st2_nk h, hv2 d hd, stepy, show evF p n d x y = 0 from by unfold evF; rw [if_neg (fun q => h q.2.2.2.2.symm)]]
                rfl
      · rintro I'' J'' R3 ⟨rfl, h2, hf2, hv2⟩
        unfold f_X2_evenness_b37
        exact b_getIv hk (keep I'' hf2).1 (wp_ifp (ge_t (by omega)) (hR2 _ _ ⟨rfl, by omega, hf2, hv2⟩))
      · rw [hv d hd]
        rw [show sm (evF p n d x) 1 = 0 from by show 0 + evF p n d x 0 = 0; unfold evF; rw [if_neg (fun q => by omega)]]
        rfl
    · rintro I' J' R2 ⟨rfl, h1, hf, hv⟩
      unfold f_X2_evenness_b27
      exact b_getIv hk (keep I' hf).1 (wp_ifp (ge_t (by omega)) (last I' hf hv))
    · rw [hv1 d hd]
      rw [show sm (fun x => sm (evF p n d x) p) 1 = 0 from by
        show 0 + sm (evF p n d 0) p = 0
        rw [sm_congr p (g := fun _ => 0) (fun i _ => by unfold evF; rw [if_neg (fun q => by omega)]), sm_zero]]
theorem t_evenR {Q : Int32 → Hp → Prop} {m f p n : Nat} (hF : RFS K A f) (hC : RFC I J f p n) (hpn : pn p n) (hq : wp (mBd (mCk 11 (some m) (f_X13_good (some m) (evS p n))) (fun r => mRt r)) Q (K, I, J, A)) : wp (f_X13_even_l34 (some m) (some f) (-1) 1) Q (K, I, J, A) := by
  obtain ⟨f0, ⟨fa4, fa5⟩, ⟨fk1, fk2⟩, hf⟩ := hF
  obtain ⟨⟨c1, c2, c3, c4⟩, c5, c6⟩ := hC
  have hr := pn_rng hpn
  have hn0 : ¬ zn n = 0 := by rw [zn0 (by omega)]; omega
  have hp0 : ¬ zn p = 0 := by rw [zn0 (by omega)]; omega
  unfold f_X13_even_l34
  refine pf2 (N := p) (fun d x => 1 ≤ d ∧ (d = 1 → x = -1) ∧ (2 ≤ d → x = zn (evC p n 1)) ∧ ∀ e, 2 ≤ e → e < d → evC p n e = evC p n 1) ?_ ?_ (k := 1) (by omega) (by unfold fuel; omega) ⟨by omega, fun _ => rfl, fun h => by omega, fun e _ _ => by omega⟩
  · rintro d x R hd ⟨h1, hx1, hx2, hall⟩ hR
    unfold f_X13_even_b34
    refine b_getIv f0 c1 (wp_ifn (ge_f (by omega)) ?_)
    unfold f_X13_even_l49
    refine pf2 (N := p) (fun v acc => 1 ≤ v ∧ acc = zn (sm (evG p n d) v)) ?_ ?_ (k := 1) (by omega) (by unfold fuel; omega) ⟨by omega, ?_⟩
    · rintro v acc R2 hv ⟨h2, rfl⟩ hR2
      have stepc : sm (evG p n d) (v + 1) = sm (evG p n d) v + evG p n d v := rfl
      have skip : evG p n d v = 0 → wp (f_X13_even_j111 R R2 (some m) (some f) x (zn d) (zn v) (zn (sm (evG p n d) v))) Q (K, I, J, A) := by
        intro h0
        unfold f_X13_even_j111
        refine b_nm (hR2 _ ⟨by omega, ?_⟩)
        rw [stepc, h0]
        exact zn_add _ 0
      unfold f_X13_even_b49
      have hm := Nat.mod_lt (v + d) (show p > 0 by omega)
      refine b_getIv f0 c1 (wp_ifn (ge_f (by omega)) (b_getIv f0 c1 (wp_rq hp0 (b_nm ?_))))
      rw [zn_add, irem_zn (by omega) (by omega)]
      refine wp_ifq (zn0 (by omega)) ?_
      by_cases hz : (v + d) % p = 0
      · exact wp_ifp hz (skip (by unfold evG; rw [if_neg (fun q => q.2.1 hz)]))
      · refine wp_ifn hz (b_getA f0 fa4 (b_ldI fk1 (by omega) (by omega) ?_))
        rw [c5 v h2 hv]
        have hl1 := lg_lt hpn.1 h2 hv
        have hl2 := lg_lt hpn.1 (show 1 ≤ (v + d) % p by omega) hm
        have hm1 := Nat.mod_lt (lg p v) (show n > 0 by omega)
        have hm2 := Nat.mod_lt (lg p ((v + d) % p)) (show n > 0 by omega)
        refine b_getIv f0 c2 (wp_rq hn0 ?_)
        rw [irem_zn (by omega) (by omega)]
        refine wp_ifq (not_congr (zn0 (by omega))) ?_
        by_cases he1 : lg p v % n = 0
        · refine wp_ifn (fun q => q he1) (b_getA f0 fa4 (b_ldI fk1 (by omega) (by omega) ?_))
          rw [c5 _ (by omega) hm]
          refine b_getIv f0 c2 (wp_rq hn0 ?_)
          rw [irem_zn (by omega) (by omega)]
          refine wp_ifq (not_congr (zn0 (by omega))) ?_
          by_cases he2 : lg p ((v + d) % p) % n = 0
          · refine wp_ifn (fun q => q he2) (b_nm (hR2 _ ⟨by omega, ?_⟩))
            rw [stepc, show evG p n d v = 1 from by unfold evG isPw; rw [if_pos ⟨h2, hz, by simp [he1], by simp [he2]⟩]]
            exact zn_succ _
          · exact wp_ifp he2 (skip (by unfold evG isPw; rw [if_neg]; rintro ⟨_, _, _, q⟩; simp at q; exact he2 q))
        · exact wp_ifp he1 (skip (by unfold evG isPw; rw [if_neg]; rintro ⟨_, _, q, _⟩; simp at q; exact he1 q))
    · rintro acc R2 ⟨h2, rfl⟩
      unfold f_X13_even_b49
      refine b_getIv f0 c1 (wp_ifp (ge_t (by omega)) ?_)
      rw [← evC_eq (show 1 ≤ p by omega) ⟨h1, hd⟩]
      have hl1 := evC_le (n := n) (show 1 ≤ p by omega) (show 1 ≤ d ∧ d < p by omega)
      have hl2 := evC_le (n := n) (show 1 ≤ p by omega) (show 1 ≤ 1 ∧ 1 < p by omega)
      by_cases hd1 : d = 1
      · subst hd1
        exact wp_ifp (hx1 rfl) (hR _ ⟨by omega, fun h => by omega, fun _ => rfl, fun e h3 h4 => by omega⟩)
      · have hx := hx2 (by omega)
        subst hx
        refine wp_ifn (by rw [z_m1, zn_zi]; exact ieq_f (by omega)) ?_
        refine wp_ifq (zn_inj (by omega) (by omega)) ?_
        by_cases he : evC p n 1 = evC p n d
        · refine wp_ifp he (hR _ ⟨by omega, fun h => by omega, fun _ => by rw [he], fun e h3 h4 => ?_⟩)
          by_cases hed : e = d
          · rw [hed]; exact he.symm
          · exact hall e h3 (by omega)
        · refine wp_ifn he ?_
          rw [evS_f (show 2 ≤ d by omega) hd (fun q => he q.symm) hall] at hq
          exact hq
    · show zn 0 = zn (0 + evG p n d 0)
      rw [show evG p n d 0 = 0 from by unfold evG; rw [if_neg (fun q => by omega)]]
  · rintro x R ⟨h1, hx1, hx2, hall⟩
    unfold f_X13_even_b34
    refine b_getIv f0 c1 (wp_ifp (ge_t (by omega)) ?_)
    rw [hx2 (by omega), ← evS_t (fun d h1 h2 => hall d h1 h2)]
    exact hq
end
