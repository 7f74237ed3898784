/-! ===== rows, loops, remainders ===== -/
def zj (z : Int) : Int64 := Int64.ofInt z
theorem zj_toInt {z : Int} (h1 : -9223372036854775808 ≤ z) (h2 : z < 9223372036854775808) : (zj z).toInt = z := Int64.toInt_ofInt_of_le (by omega) (by omega)
theorem zj_self (x : Int64) : zj x.toInt = x := by unfold zj; simp
theorem zj_add (a b : Int) : zj a + zj b = zj (a + b) := (Int64.ofInt_add a b).symm
theorem zj_sub (a b : Int) : zj a - zj b = zj (a - b) := (Int64.ofInt_sub a b).symm
theorem zj_mul (a b : Int) : zj a * zj b = zj (a * b) := (Int64.ofInt_mul a b).symm
theorem zj_neg (a : Int) : -(zj a) = zj (-a) := (Int64.ofInt_neg a).symm
theorem zj_of {x : Int64} {v : Int} (h : x.toInt = v) : x = zj v := by rw [← h, zj_self]
theorem zi_of {x : Int32} {v : Int} (h : x.toInt = v) : x = zi v := by rw [← h, zi_self]
theorem zj_32 (v : Int) : (zj v).toInt32 = zi v := Int64.toInt32_ofInt
theorem zn_64 {n : Nat} (h : n < 2147483648) : (zn n).toInt64 = zj n := zj_of (zj_zn h)
theorem zi_64 {v : Int} (h1 : -2147483648 ≤ v) (h2 : v < 2147483648) : (zi v).toInt64 = zj v := zj_of (zj_zi h1 h2)
theorem tmod_cases (v : Int) {n : Int} (hn : 1 ≤ n) : (0 ≤ v → v.tmod n = v % n) ∧ (v < 0 → (v.tmod n = 0 → v % n = 0) ∧ (¬ v.tmod n = 0 → v.tmod n + n = v % n)) := by
  refine ⟨fun h => Int.tmod_eq_emod_of_nonneg h, fun h => ?_⟩
  have e : v.tmod n = -((-v) % n) := by
    rw [show v = -(-v) by omega, Int.neg_tmod, Int.tmod_eq_emod_of_nonneg (by omega)]; simp
  have h1 := Int.emod_nonneg (-v) (show n ≠ 0 by omega)
  have h2 := Int.emod_lt_of_pos (-v) (show 0 < n by omega)
  have h3 := Int.mul_ediv_add_emod (-v) n
  refine ⟨fun h0 => ?_, fun h0 => ?_⟩
  · rw [e] at h0
    have h4 : -v = n * ((-v) / n) := by omega
    have h5 : v = n * (-((-v) / n)) := by rw [Int.mul_neg]; omega
    rw [h5]; exact Int.mul_emod_right _ _
  · rw [e] at h0 ⊢
    generalize hr : (-v) % n = r at *
    generalize hq : (-v) / n = q at *
    have h6 : n * (-q - 1) = -(n * q) - n := by rw [Int.mul_sub, Int.mul_neg, Int.mul_one]
    have h5 : v = (n - r) + n * (-q - 1) := by omega
    rw [h5, Int.add_mul_emod_self_left, Int.emod_eq_of_lt (by omega) (by omega)]
    omega
theorem lrem_zj {a b : Int} (h1 : -9223372036854775808 ≤ a) (h2 : a < 9223372036854775808) (h3 : 1 ≤ b) (h4 : b < 9223372036854775808) : lrem (zj a) (zj b) = zj (a.tmod b) := by
  unfold lrem
  have e : zj a / zj b = zj (a.tdiv b) := by
    unfold zj
    rw [Int64.ofInt_tdiv]
    all_goals first | (show _ ≤ _; decide) | (simp only [Int64.toInt_minValue, Int64.toInt_maxValue]; omega)
  rw [e, zj_mul, zj_sub]
  congr 1
  have := Int.tmod_add_mul_tdiv a b
  rw [Int.mul_comm] at this
  omega
theorem xor32 {x y : Int32} (hy : 0 ≤ y.toInt) : (x ^^^ y) ≥ 0 ↔ 0 ≤ x.toInt := by
  show (0 : Int32) ≤ x ^^^ y ↔ _
  rw [Int32.le_iff_toInt_le]
  have e1 : (x ^^^ y).toBitVec.msb = (x.toBitVec.msb ^^ y.toBitVec.msb) := by rw [Int32.toBitVec_xor, BitVec.msb_xor]
  rw [BitVec.msb_eq_toInt, BitVec.msb_eq_toInt, BitVec.msb_eq_toInt] at e1
  have e2 : ∀ z : Int32, z.toBitVec.toInt = z.toInt := fun z => rfl
  rw [e2, e2, e2] at e1
  have e3 : decide (y.toInt < 0) = false := by simp; omega
  rw [e3] at e1
  simp at e1
  rw [show (0 : Int32).toInt = 0 from rfl]
  omega
theorem t_floor32 {v : Int} {n : Nat} {h : Hp} (h1 : -2147483648 < v) (h2 : v < 2147483648) (h3 : 1 ≤ n) (h4 : n < 2147483648) : f_J9_floorMod_7cf53 (zi v) (zn n) h = some (zn (v % n).toNat, h) := by
  have hn0 : ¬ zn n = 0 := by
    rw [z_0, zn_inj h4 (by omega)]; omega
  obtain ⟨c1, c2⟩ := tmod_cases v (n := n) (by omega)
  have hb1 := Int.emod_nonneg v (show (n : Int) ≠ 0 by omega)
  have hb2 := Int.emod_lt_of_pos v (show (0 : Int) < n by omega)
  have er : zn (v % n).toNat = zi (v % n) := by rw [zn_zi]; congr 1; omega
  unfold f_J9_floorMod_7cf53 mRq mNm
  rw [if_pos hn0, er]
  have en : zn n = zi n := zn_zi n
  rw [en, irem_zi h1 h2 (by omega) (by omega)]
  have hx := xor32 (x := zi v) (y := zi n) (by rw [zi_toInt (by omega) (by omega)]; omega)
  rw [zi_toInt (by omega) h2] at hx
  dsimp only
  by_cases h0 : 0 ≤ v
  · rw [if_pos (hx.mpr h0), c1 h0]; rfl
  · rw [if_neg (fun q => h0 (hx.mp q))]
    obtain ⟨d1, d2⟩ := c2 (by omega)
    by_cases hz : v.tmod n = 0
    · rw [hz, if_pos (by rfl), d1 hz]; rfl
    · have := d2 hz
      have hne : ¬ zi (v.tmod n) = 0 := by
        intro e
        have := congrArg Int32.toInt e
        rw [zi_toInt (by omega) (by omega)] at this
        exact hz this
      rw [if_neg hne, zi_add, d2 hz]; rfl
theorem t_mod {X : Int64} {v : Int} {n : Nat} {h : Hp} (hX : X.toInt = v) (h3 : 1 ≤ n) (h4 : n < 2147483648) : f_X6_mod X (zn n) h = some (zn (v % n).toNat, h) := by
  have h1 := Int64.le_toInt X
  have h2 := Int64.toInt_lt X
  rw [hX] at h1 h2
  have hn0 : ¬ zj (n : Int) = 0 := by
    intro e
    have := congrArg Int64.toInt e
    rw [zj_toInt (by omega) (by omega)] at this
    have e0 : (0 : Int64).toInt = 0 := rfl
    omega
  obtain ⟨c1, c2⟩ := tmod_cases v (n := n) (by omega)
  have hb1 := Int.emod_nonneg v (show (n : Int) ≠ 0 by omega)
  have hb2 := Int.emod_lt_of_pos v (show (0 : Int) < n by omega)
  have er : zn (v % n).toNat = zi (v % n) := by rw [zn_zi]; congr 1; omega
  have hlo : -2147483648 < v.tmod n ∧ v.tmod n < 2147483648 ∧ (v < 0 → v.tmod n ≤ 0) := by
    by_cases h0 : 0 ≤ v
    · have := c1 h0; omega
    · obtain ⟨d1, d2⟩ := c2 (by omega)
      by_cases hz : v.tmod n = 0
      · omega
      · have := d2 hz; omega
  unfold f_X6_mod mRq mNm
  rw [if_pos (by show (1 : Int32) ≤ zn n; rw [z_1, zn_le (by omega) h4]; exact h3), zn_64 h4, zj_of hX, if_pos hn0, lrem_zj (by omega) (by omega) (by omega) (by omega), zj_32, er]
  dsimp only
  have hge : zi (v.tmod n) ≥ 0 ↔ 0 ≤ v.tmod n := by
    show zi 0 ≤ zi (v.tmod n) ↔ _
    rw [zi_le (by omega) (by omega) (by omega) (by omega)]
  by_cases h0 : 0 ≤ v.tmod n
  · rw [if_pos (hge.mpr h0)]
    have e : v.tmod n = v % n := by
      by_cases hv : 0 ≤ v
      · exact c1 hv
      · obtain ⟨d1, d2⟩ := c2 (by omega)
        have hz : v.tmod n = 0 := by omega
        rw [hz, d1 hz]
    rw [e]; rfl
  · rw [if_neg (fun q => h0 (hge.mp q))]
    have hv : v < 0 := by
      by_cases hv : 0 ≤ v
      · have := c1 hv; omega
      · omega
    rw [zn_zi, zi_add, (c2 hv).2 (by omega)]; rfl
theorem t_modn {X : Int64} {v n : Nat} {h : Hp} (hX : X.toInt = (v : Int)) (h3 : 1 ≤ n) (h4 : n < 2147483648) : f_X6_mod X (zn n) h = some (zn (v % n), h) := by
  rw [t_mod hX h3 h4, show ((v : Int) % (n : Int)).toNat = v % n by omega]
theorem zn_i64 {a : Nat} (h : a < 2147483648) : (zn a).toInt64.toInt = (a : Int) := zj_zn h
section
variable {β : Type} {Q : β → Hp → Prop} {K : List (Nat × Nat)} {I : Nat → Nat → Int32} {J : Nat → Nat → Int64} {A : Nat → Nat → Option Nat} {c k a n j t : Nat}
theorem idx_ok {j n : Nat} (hj : j < n) (hb : j < 2147483648) : ¬ (zn j < 0 ∨ n ≤ (zn j).toNatClampNeg) := by
  rw [zn_clamp hb]
  intro h
  rcases h with h | h
  · exact zn_nneg hb h
  · omega
theorem b_ldI {G : Int32 → Mo β} (hk : kk K a = (t, n)) (hj : j < n) (hb : j < 2147483648) (w : wp (G (I a j)) Q (K, I, J, A)) : wp (mBd (mLdI t (some a) (zn j)) G) Q (K, I, J, A) :=
  b_eq (r := I a j) ((if_pos (show (kk K a).1 = t ∧ ¬ (zn j < 0 ∨ (kk K a).2 ≤ (zn j).toNatClampNeg) by rw [hk]; exact ⟨rfl, idx_ok hj hb⟩)).trans (by show some (I a (zn j).toNatClampNeg, _) = _; rw [zn_clamp hb])) w
theorem b_ldJ {G : Int64 → Mo β} (hk : kk K a = (2, n)) (hj : j < n) (hb : j < 2147483648) (w : wp (G (J a j)) Q (K, I, J, A)) : wp (mBd (mLdJ (some a) (zn j)) G) Q (K, I, J, A) :=
  b_eq (r := J a j) ((if_pos (show (kk K a).1 = 2 ∧ ¬ (zn j < 0 ∨ (kk K a).2 ≤ (zn j).toNatClampNeg) by rw [hk]; exact ⟨rfl, idx_ok hj hb⟩)).trans (by show some (J a (zn j).toNatClampNeg, _) = _; rw [zn_clamp hb])) w
theorem b_ldA {G : Option Nat → Mo β} (hk : kk K a = (t, n)) (ht : 4 ≤ t ∧ t < 8) (hj : j < n) (hb : j < 2147483648) (w : wp (G (A a j)) Q (K, I, J, A)) : wp (mBd (mLdA t (some a) (zn j)) G) Q (K, I, J, A) :=
  b_eq (r := A a j) ((if_pos (show ((kk K a).1 = t ∧ 4 ≤ t ∧ t < 8) ∧ ¬ (zn j < 0 ∨ (kk K a).2 ≤ (zn j).toNatClampNeg) by rw [hk]; exact ⟨⟨rfl, ht⟩, idx_ok hj hb⟩)).trans (by show some (A a (zn j).toNatClampNeg, _) = _; rw [zn_clamp hb])) w
theorem b_stI {G : Unit → Mo β} {x : Int32} (hk : kk K a = (1, n)) (ha : 64 ≤ a) (hj : j < n) (hb : j < 2147483648) (w : wp (G ()) Q (K, st2 I a j x, J, A)) : wp (mBd (mStI (some a) (zn j) x) G) Q (K, I, J, A) :=
  b_eq (r := ()) ((if_pos (show ((kk K a).1 = 1 ∧ 64 ≤ a) ∧ ¬ (zn j < 0 ∨ (kk K a).2 ≤ (zn j).toNatClampNeg) by rw [hk]; exact ⟨⟨rfl, ha⟩, idx_ok hj hb⟩)).trans (by rw [zn_clamp hb]; rfl)) w
theorem b_stB {G : Unit → Mo β} {x : Int32} (hk : kk K a = (3, n)) (ha : 64 ≤ a) (hj : j < n) (hb : j < 2147483648) (w : wp (G ()) Q (K, st2 I a j x.toInt8.toInt32, J, A)) : wp (mBd (mStB (some a) (zn j) x) G) Q (K, I, J, A) :=
  b_eq (r := ()) ((if_pos (show ((kk K a).1 = 3 ∧ 64 ≤ a) ∧ ¬ (zn j < 0 ∨ (kk K a).2 ≤ (zn j).toNatClampNeg) by rw [hk]; exact ⟨⟨rfl, ha⟩, idx_ok hj hb⟩)).trans (by rw [zn_clamp hb]; rfl)) w
theorem b_stJ {G : Unit → Mo β} {x : Int64} (hk : kk K a = (2, n)) (ha : 64 ≤ a) (hj : j < n) (hb : j < 2147483648) (w : wp (G ()) Q (K, I, st2 J a j x, A)) : wp (mBd (mStJ (some a) (zn j) x) G) Q (K, I, J, A) :=
  b_eq (r := ()) ((if_pos (show ((kk K a).1 = 2 ∧ 64 ≤ a) ∧ ¬ (zn j < 0 ∨ (kk K a).2 ≤ (zn j).toNatClampNeg) by rw [hk]; exact ⟨⟨rfl, ha⟩, idx_ok hj hb⟩)).trans (by rw [zn_clamp hb]; rfl)) w
theorem b_len {G : Int32 → Mo β} (hk : kk K a = (t, n)) (ht : 1 ≤ t ∧ t < 8) (w : wp (G (zn n)) Q (K, I, J, A)) : wp (mBd (mLen (some a)) G) Q (K, I, J, A) :=
  b_eq (r := zn n) ((if_pos (show 1 ≤ (kk K a).1 ∧ (kk K a).1 < 8 by rw [hk]; exact ht)).trans (by show some (zn (kk K a).2, _) = _; rw [hk])) w
/-! rows that may be asked for any place -/
theorem t_at (hk : kk K a = (2, n)) (hn : n < 2147483648) (hj : j < 2147483648) : f_X6_at (some a) (zn j) (K, I, J, A) = some (if j < n then J a j else 0, (K, I, J, A)) := by
  unfold f_X6_at
  rw [if_neg (by simp), if_neg (zn_nneg hj)]
  by_cases h : j < n
  · obtain ⟨r, h', e, q1, q2⟩ := (b_len (Q := fun r h' => r = J a j ∧ h' = (K, I, J, A)) (I := I) (J := J) (A := A) (G := fun r1 => if zn j ≥ r1 then mRt 0 else mBd (mLdJ (some a) (zn j)) fun r2 => mRt r2) hk (by decide) (wp_ifn (by show ¬ zn n ≤ zn j; rw [zn_le hn hj]; omega) (b_ldJ hk h hj (wp_rt ⟨rfl, rfl⟩))))
    rw [if_pos h, e, q1, q2]
  · obtain ⟨r, h', e, q1, q2⟩ := (b_len (Q := fun r h' => r = 0 ∧ h' = (K, I, J, A)) (I := I) (J := J) (A := A) (G := fun r1 => if zn j ≥ r1 then mRt 0 else mBd (mLdJ (some a) (zn j)) fun r2 => mRt r2) hk (by decide) (wp_ifp (by show zn n ≤ zn j; rw [zn_le hn hj]; omega) (wp_rt ⟨rfl, rfl⟩)))
    rw [if_neg h, e, q1, q2]
theorem t_atp (hk : kk K a = (2, n)) (hn : n < 2147483648) (h : j < n) : f_X6_at (some a) (zn j) (K, I, J, A) = some (J a j, (K, I, J, A)) := by rw [t_at hk hn (by omega), if_pos h]
theorem t_cell (hk : kk K a = (1, n)) (hn : n < 2147483648) (hj : j < 2147483648) : f_X6_cell (some a) (zn j) (K, I, J, A) = some (if j < n then I a j else 0, (K, I, J, A)) := by
  unfold f_X6_cell
  rw [if_neg (by simp), if_neg (zn_nneg hj)]
  by_cases h : j < n
  · obtain ⟨r, h', e, q1, q2⟩ := (b_len (Q := fun r h' => r = I a j ∧ h' = (K, I, J, A)) (I := I) (J := J) (A := A) (G := fun r1 => if zn j ≥ r1 then mRt 0 else mBd (mLdI 1 (some a) (zn j)) fun r2 => mRt r2) hk (by decide) (wp_ifn (by show ¬ zn n ≤ zn j; rw [zn_le hn hj]; omega) (b_ldI hk h hj (wp_rt ⟨rfl, rfl⟩))))
    rw [if_pos h, e, q1, q2]
  · obtain ⟨r, h', e, q1, q2⟩ := (b_len (Q := fun r h' => r = 0 ∧ h' = (K, I, J, A)) (I := I) (J := J) (A := A) (G := fun r1 => if zn j ≥ r1 then mRt 0 else mBd (mLdI 1 (some a) (zn j)) fun r2 => mRt r2) hk (by decide) (wp_ifp (by show zn n ≤ zn j; rw [zn_le hn hj]; omega) (wp_rt ⟨rfl, rfl⟩)))
    rw [if_neg h, e, q1, q2]
theorem t_cellp (hk : kk K a = (1, n)) (hn : n < 2147483648) (h : j < n) : f_X6_cell (some a) (zn j) (K, I, J, A) = some (I a j, (K, I, J, A)) := by rw [t_cell hk hn (by omega), if_pos h]
theorem t_put {x : Int64} (hk : kk K a = (2, n)) (ha : 64 ≤ a) (hn : n < 2147483648) (h : j < n) : f_X6_put (some a) (zn j) x (K, I, J, A) = some ((), (K, I, st2 J a j x, A)) := by
  unfold f_X6_put
  rw [if_neg (by simp), if_neg (zn_nneg (by omega))]
  obtain ⟨r, h', e, q1, q2⟩ := (b_len (Q := fun r h' => r = () ∧ h' = (K, I, st2 J a j x, A)) (I := I) (J := J) (A := A) (G := fun r1 => if zn j ≥ r1 then mRt () else mBd (mStJ (some a) (zn j) x) fun _ => mRt ()) hk (by decide) (wp_ifn (by show ¬ zn n ≤ zn j; rw [zn_le hn (by omega)]; omega) (b_stJ hk ha h (by omega) (wp_rt ⟨rfl, rfl⟩))))
  rw [e, q1, q2]
theorem t_mark {x : Int32} (hk : kk K a = (1, n)) (ha : 64 ≤ a) (hn : n < 2147483648) (h : j < n) : f_X6_mark (some a) (zn j) x (K, I, J, A) = some ((), (K, st2 I a j x, J, A)) := by
  unfold f_X6_mark
  rw [if_neg (by simp), if_neg (zn_nneg (by omega))]
  obtain ⟨r, h', e, q1, q2⟩ := (b_len (Q := fun r h' => r = () ∧ h' = (K, st2 I a j x, J, A)) (I := I) (J := J) (A := A) (G := fun r1 => if zn j ≥ r1 then mRt () else mBd (mStI (some a) (zn j) x) fun _ => mRt ()) hk (by decide) (wp_ifn (by show ¬ zn n ≤ zn j; rw [zn_le hn (by omega)]; omega) (b_stI hk ha h (by omega) (wp_rt ⟨rfl, rfl⟩))))
  rw [e, q1, q2]
theorem t_rowAt (hk : kk K a = (6, n)) (hn : n < 2147483648) (h : j < n) : f_X6_rowAt (some a) (zn j) (K, I, J, A) = some (A a j, (K, I, J, A)) := by
  unfold f_X6_rowAt
  rw [if_neg (by simp), if_neg (zn_nneg (by omega))]
  obtain ⟨r, h', e, q1, q2⟩ := (b_len (Q := fun r h' => r = A a j ∧ h' = (K, I, J, A)) (I := I) (J := J) (A := A) (G := fun r1 => if zn j ≥ r1 then mRt none else mBd (mLdA 6 (some a) (zn j)) fun r2 => mRt r2) hk (by decide) (wp_ifn (by show ¬ zn n ≤ zn j; rw [zn_le hn (by omega)]; omega) (b_ldA hk (by decide) h (by omega) (wp_rt ⟨rfl, rfl⟩))))
  rw [e, q1, q2]
/-! loops that make no cells -/
theorem while1 {α : Type} {b : (α → Mo β) → α → Mo β} (Inv : Nat → α → (Nat → Nat → Int32) → (Nat → Nat → Int64) → Prop)
    (step : ∀ m x I J R, Inv m x I J → (∀ m' y I' J', m' < m → Inv m' y I' J' → wp (R y) Q (K, I', J', A)) → wp (b R x) Q (K, I, J, A)) :
    ∀ (n m : Nat) (x : α) I J, m < n → Inv m x I J → wp (lq1 b n x) Q (K, I, J, A) := by
  intro n
  induction n with
  | zero => intro m x I J h; omega
  | succ n ih => exact fun m x I J h hi => step m x I J (lq1 b n) hi (fun m' y I' J' hl hi' => ih m' y I' J' (by omega) hi')
theorem while2 {α γ : Type} {b : (α → γ → Mo β) → α → γ → Mo β} (Inv : Nat → α → γ → (Nat → Nat → Int32) → (Nat → Nat → Int64) → Prop)
    (step : ∀ m x y I J R, Inv m x y I J → (∀ m' x' y' I' J', m' < m → Inv m' x' y' I' J' → wp (R x' y') Q (K, I', J', A)) → wp (b R x y) Q (K, I, J, A)) :
    ∀ (n m : Nat) (x : α) (y : γ) I J, m < n → Inv m x y I J → wp (lq2 b n x y) Q (K, I, J, A) := by
  intro n
  induction n with
  | zero => intro m x y I J h; omega
  | succ n ih => exact fun m x y I J h hi => step m x y I J (lq2 b n) hi (fun m' x' y' I' J' hl hi' => ih m' x' y' I' J' (by omega) hi')
theorem for1 {b : (Int32 → Mo β) → Int32 → Mo β} {N : Nat} (Inv : Nat → (Nat → Nat → Int32) → (Nat → Nat → Int64) → Prop)
    (step : ∀ k I J R, k < N → Inv k I J → (∀ I' J', Inv (k + 1) I' J' → wp (R (zn k + 1)) Q (K, I', J', A)) → wp (b R (zn k)) Q (K, I, J, A))
    (exit : ∀ I J R, Inv N I J → wp (b R (zn N)) Q (K, I, J, A)) {n k : Nat} {I J} (hk : k ≤ N) (hn : N < n) (h0 : Inv k I J) : wp (lq1 b n (zn k)) Q (K, I, J, A) := by
  refine while1 (fun m x I J => ∃ k, x = zn k ∧ k ≤ N ∧ m = N - k ∧ Inv k I J) ?_ n (N - k) (zn k) I J (by omega) ⟨k, rfl, hk, rfl, h0⟩
  rintro m x I J R ⟨k, rfl, hk, rfl, hi⟩ hr
  by_cases he : k = N
  · subst he; exact exit I J R hi
  · exact step k I J R (by omega) hi (fun I' J' hi' => hr (N - (k + 1)) _ I' J' (by omega) ⟨k + 1, zn_succ k, by omega, rfl, hi'⟩)
/-- an accumulator first, then the index -/
theorem for2 {α : Type} {b : (α → Int32 → Mo β) → α → Int32 → Mo β} {N : Nat} (Inv : Nat → α → (Nat → Nat → Int32) → (Nat → Nat → Int64) → Prop)
    (step : ∀ k x I J R, k < N → Inv k x I J → (∀ y I' J', Inv (k + 1) y I' J' → wp (R y (zn k + 1)) Q (K, I', J', A)) → wp (b R x (zn k)) Q (K, I, J, A))
    (exit : ∀ x I J R, Inv N x I J → wp (b R x (zn N)) Q (K, I, J, A)) {n k : Nat} {x : α} {I J} (hk : k ≤ N) (hn : N < n) (h0 : Inv k x I J) : wp (lq2 b n x (zn k)) Q (K, I, J, A) := by
  refine while2 (fun m x y I J => ∃ k, y = zn k ∧ k ≤ N ∧ m = N - k ∧ Inv k x I J) ?_ n (N - k) x (zn k) I J (by omega) ⟨k, rfl, hk, rfl, h0⟩
  rintro m x y I J R ⟨k, rfl, hk, rfl, hi⟩ hr
  by_cases he : k = N
  · subst he; exact exit x I J R hi
  · exact step k x I J R (by omega) hi (fun y I' J' hi' => hr (N - (k + 1)) _ _ I' J' (by omega) ⟨k + 1, zn_succ k, by omega, rfl, hi'⟩)
/-- the index first, then an accumulator -/
theorem for3 {α : Type} {b : (Int32 → α → Mo β) → Int32 → α → Mo β} {N : Nat} (Inv : Nat → α → (Nat → Nat → Int32) → (Nat → Nat → Int64) → Prop)
    (step : ∀ k x I J R, k < N → Inv k x I J → (∀ y I' J', Inv (k + 1) y I' J' → wp (R (zn k + 1) y) Q (K, I', J', A)) → wp (b R (zn k) x) Q (K, I, J, A))
    (exit : ∀ x I J R, Inv N x I J → wp (b R (zn N) x) Q (K, I, J, A)) {n k : Nat} {x : α} {I J} (hk : k ≤ N) (hn : N < n) (h0 : Inv k x I J) : wp (lq2 b n (zn k) x) Q (K, I, J, A) := by
  refine while2 (fun m y x I J => ∃ k, y = zn k ∧ k ≤ N ∧ m = N - k ∧ Inv k x I J) ?_ n (N - k) (zn k) x I J (by omega) ⟨k, rfl, hk, rfl, h0⟩
  rintro m y x I J R ⟨k, rfl, hk, rfl, hi⟩ hr
  by_cases he : k = N
  · subst he; exact exit x I J R hi
  · exact step k x I J R (by omega) hi (fun y I' J' hi' => hr (N - (k + 1)) _ _ I' J' (by omega) ⟨k + 1, zn_succ k, by omega, rfl, hi'⟩)
end
