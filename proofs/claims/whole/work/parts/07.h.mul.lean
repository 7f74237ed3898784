/-! ===== products, turns, sums of Jacobi in the class ===== -/
section
variable {β : Type} {K : List (Nat × Nat)} {I : Nat → Nat → Int32} {J : Nat → Nat → Int64} {A : Nat → Nat → Option Nat}
theorem t_multiply {Q : Unit → Hp → Prop} {g x y o n : Nat} (hO : OT K I) (hR : RS K A g) (hn : 2 ≤ n ∧ n ≤ 12) (hx : kk K x = (2, 10)) (hy : kk K y = (2, 10)) (ho : kk K o = (2, 10)) (ho2 : 64 ≤ o) (hog : o ≠ g + 1) (hxg : x ≠ g + 1) (hyg : y ≠ g + 1)
    (q : ∀ J', (∀ b, b ≠ g + 1 → b ≠ o → J' b = J b) → (∀ i, i < 10 → J' o i = mul n (J x) (J y) i) → Q () (K, I, J', A)) : wp (f_X5_multiply (some g) (some x) (some y) (some o) (zn n)) Q (K, I, J, A) := by
  have hR' := hR
  obtain ⟨r1, r2, r3, r4⟩ := hR'
  obtain ⟨p1, p2, p3⟩ := phi_rng hn.1 hn.2
  unfold f_X5_multiply
  refine b_eq (t_lengthOf hO hn.2) (b_ck r1 (wp_bd (t_clear hR (fun J0 hf0 hv0 => ?_))))
  unfold f_X5_multiply_l14
  refine for1 (N := phi n) (fun i I' J' => I' = I ∧ (∀ b, b ≠ g + 1 → J' b = J b) ∧ ∀ k, k < 12 → J' (g + 1) k = muO n (J x) (J y) i k) ?_ ?_ (k := 0) (by omega) (by unfold fuel; omega) ⟨rfl, hf0, hv0⟩
  · rintro i I' J' R hi ⟨rfl, hfr, hv⟩ hr
    unfold f_X5_multiply_b14
    refine wp_ifn (ge_f (by omega)) ?_
    unfold f_X5_multiply_l24
    refine for1 (N := phi n) (fun j I'' J'' => I'' = I' ∧ (∀ b, b ≠ g + 1 → J'' b = J b) ∧ ∀ k, k < 12 → J'' (g + 1) k = muI n (J x i) (J y) i (muO n (J x) (J y) i) j k) ?_ ?_ (k := 0) (by omega) (by unfold fuel; omega) ⟨rfl, hfr, hv⟩
    · rintro j I'' J'' R2 hj ⟨rfl, hfr2, hv2⟩ hr2
      unfold f_X5_multiply_b24
      refine wp_ifn (ge_f (by omega)) (b_eq (t_atp hx (by omega) (by omega)) (b_eq (t_atp hy (by omega) (by omega)) (b_ck r1 ?_)))
      rw [zn_add]
      have hm := Nat.mod_lt (i + j) (show n > 0 by omega)
      refine b_eq (t_collect hR (by omega) hn) (hr2 _ _ ⟨rfl, fun b hb => ?_, ?_⟩)
      · rw [st2_nb hb]; exact hfr2 b hb
      · refine ag_st2 hv2 ?_
        rw [hv2 _ (by omega), hfr2 x hxg, hfr2 y hyg]
    · rintro I'' J'' R2 ⟨rfl, hfr2, hv2⟩
      unfold f_X5_multiply_b24
      exact wp_ifp (ge_t (by omega)) (hr _ _ ⟨rfl, hfr2, hv2⟩)
  · rintro I' J' R ⟨rfl, hfr, hv⟩
    unfold f_X5_multiply_b14
    refine wp_ifp (ge_t (by omega)) (b_ck r1 (wp_bd (t_settle hO hR hn ho ho2 hog hv (muO_low (by omega) _) (fun J'' hf2 hv2 => wp_rt (q J'' (fun b h1 h2 => ?_) hv2)))))
    rw [hf2 b h1 h2, hfr b h1]
theorem t_turnRow {Q : Unit → Hp → Prop} {g x o n t : Nat} (hO : OT K I) (hR : RS K A g) (hn : 2 ≤ n ∧ n ≤ 12) (ht : t < 1000) (hx : kk K x = (2, 10)) (ho : kk K o = (2, 10)) (ho2 : 64 ≤ o) (hog : o ≠ g + 1) (hxg : x ≠ g + 1)
    (q : ∀ J', (∀ b, b ≠ g + 1 → b ≠ o → J' b = J b) → (∀ i, i < 10 → J' o i = tun n t (J x) i) → Q () (K, I, J', A)) : wp (f_X5_turnRow (some g) (some x) (zn t) (some o) (zn n)) Q (K, I, J, A) := by
  have hR' := hR
  obtain ⟨r1, r2, r3, r4⟩ := hR'
  obtain ⟨p1, p2, p3⟩ := phi_rng hn.1 hn.2
  unfold f_X5_turnRow
  refine b_eq (t_lengthOf hO hn.2) (b_ck r1 (wp_bd (t_clear hR (fun J0 hf0 hv0 => ?_))))
  unfold f_X5_turnRow_l14
  refine for1 (N := phi n) (fun i I' J' => I' = I ∧ (∀ b, b ≠ g + 1 → J' b = J b) ∧ ∀ k, k < 12 → J' (g + 1) k = tuO n t (J x) i k) ?_ ?_ (k := 0) (by omega) (by unfold fuel; omega) ⟨rfl, hf0, hv0⟩
  · rintro i I' J' R hi ⟨rfl, hfr, hv⟩ hr
    unfold f_X5_turnRow_b14
    refine wp_ifn (ge_f (by omega)) (b_eq (t_atp hx (by omega) (by omega)) (b_ck r1 ?_))
    have hm := Nat.mod_lt (i * t) (show n > 0 by omega)
    have hit : i * t ≤ 10 * 1000 := Nat.mul_le_mul (by omega) (by omega)
    rw [zn_mul]
    refine b_eq (t_collect hR (by omega) hn) (hr _ _ ⟨rfl, fun b hb => ?_, ?_⟩)
    · rw [st2_nb hb]; exact hfr b hb
    · refine ag_st2 hv ?_
      rw [hv _ (by omega), hfr x hxg]
  · rintro I' J' R ⟨rfl, hfr, hv⟩
    unfold f_X5_turnRow_b14
    refine wp_ifp (ge_t (by omega)) (b_ck r1 (wp_bd (t_settle hO hR hn ho ho2 hog hv (tuO_low (by omega) _) (fun J'' hf2 hv2 => wp_rt (q J'' (fun b h1 h2 => ?_) hv2)))))
    rw [hf2 b h1 h2, hfr b h1]
theorem t_powerOfZ {Q : Unit → Hp → Prop} {g o n e : Nat} (hO : OT K I) (hR : RS K A g) (hn : 2 ≤ n ∧ n ≤ 12) (he : e < 1000000) (ho : kk K o = (2, 10)) (ho2 : 64 ≤ o) (hog : o ≠ g + 1)
    (q : ∀ J', (∀ b, b ≠ g + 1 → b ≠ o → J' b = J b) → (∀ i, i < 10 → J' o i = zpw n e i) → Q () (K, I, J', A)) : wp (f_X5_powerOfZ (some g) (zn e) (some o) (zn n)) Q (K, I, J, A) := by
  have hR' := hR
  obtain ⟨r1, r2, r3, r4⟩ := hR'
  have hm := Nat.mod_lt e (show n > 0 by omega)
  unfold f_X5_powerOfZ
  refine b_ck r1 (wp_bd (t_clear hR (fun J0 hf0 hv0 => b_ck r1 (b_eq (t_collect hR he hn) (b_ck r1 (wp_bd ?_))))))
  refine t_settle hO hR hn ho ho2 hog (w := adw wz (e % n) 1) (ag_st2 hv0 (by rw [hv0 _ (by omega)])) (wz_low.adw hm _) (fun J'' hf2 hv2 => wp_rt (q J'' (fun b h1 h2 => ?_) hv2))
  rw [hf2 b h1 h2, st2_nb h1, hf0 b h1]
def chiV (o : Option Nat) : Int32 := match o with
  | some u => zn u
  | none => -2
theorem lg_lt {p x : Nat} (hp : p ∈ pl) (h1 : 1 ≤ x) (h2 : x < p) : lg p x < 198 := by
  have := (rt_log hp h1 h2).1
  have := pl_rng p hp
  omega
theorem t_character {a p n c x : Nat} (hF : FS K A a) (hC : FC I a p n) (hpn : pn p n) (hc : c < 1000) (hx : x < p) : f_X2_characterAt (some a) (zn c) (zn x) (K, I, J, A) = some (chiV (chi p n c x), (K, I, J, A)) := by
  apply wp_get
  obtain ⟨hk, ⟨hA0, hA1, hA2⟩, ⟨hk1, hk2, hk3⟩, ha⟩ := hF
  obtain ⟨c1, c2, c3, c4⟩ := hC
  have hr := pn_rng hpn
  unfold f_X2_characterAt
  refine wp_ifq (not_congr (zn0 (by omega))) ?_
  unfold chi
  by_cases h : x = 0
  · refine wp_ifn (fun q => q h) ?_
    rw [if_pos h]
    refine wp_ifq (not_congr (zn0 (by omega))) ?_
    by_cases h2 : c = 0
    · rw [if_pos h2]; exact wp_ifn (fun q => q h2) (wp_rt ⟨rfl, rfl⟩)
    · rw [if_neg h2]; exact wp_ifp h2 (wp_rt ⟨rfl, rfl⟩)
  · rw [if_neg h]
    have hl := lg_lt hpn.1 (show 1 ≤ x by omega) hx
    have hm : c * lg p x ≤ 1000 * 198 := Nat.mul_le_mul (by omega) (by omega)
    refine wp_ifp h (b_getA hk hA0 (b_eq (t_cellp hk1 (by omega) (by omega)) ?_))
    rw [c4 x (by omega) hx]
    refine b_getIv hk c2 ?_
    rw [zn_mul]
    exact b_eq (t_modn (zn_i64 (by omega)) (by omega) (by omega)) (wp_rt ⟨rfl, rfl⟩)
theorem chiV_none : chiV none = (-2 : Int32) := rfl
theorem chi_lt {p n c x u : Nat} (hn : 0 < n) (h : chi p n c x = some u) : u < n := by
  unfold chi at h
  split at h
  · split at h
    · cases h; omega
    · cases h
  · cases h; exact Nat.mod_lt _ hn
theorem chiV_some {u : Nat} (h : u < 1000) : ¬ chiV (some u) = (-2 : Int32) := by
  show ¬ zn u = -2
  rw [z_m2, zn_zi]
  exact ieq_f (by omega)
theorem mod1x {p x : Nat} (hx : x < p) (hp : 3 ≤ p) : ((1 - (x : Int)) % (p : Int)).toNat = (p + 1 - x) % p := by
  have : (1 - (x : Int)) % (p : Int) = ((p + 1 - x : Nat) : Int) % p := by
    rw [show ((p + 1 - x : Nat) : Int) = (1 - (x : Int)) + p by omega, Int.add_emod_right]
  rw [this]
  omega
theorem t_jacobiSum {Q : Unit → Hp → Prop} {a p n c d g o : Nat} (hO : OT K I) (hF : FS K A a) (hC : FC I a p n) (hpn : pn p n) (hR : RS K A g) (hc : c < 1000) (hd : d < 1000) (ho : kk K o = (2, 10)) (ho2 : 64 ≤ o) (hog : o ≠ g + 1)
    (q : ∀ J', (∀ b, b ≠ g + 1 → b ≠ o → J' b = J b) → (∀ i, i < 10 → J' o i = jac p n c d i) → Q () (K, I, J', A)) : wp (f_X2_jacobiSum (some a) (zn c) (zn d) (some g) (some o)) Q (K, I, J, A) := by
  have hR' := hR
  have hF' := hF
  have hC' := hC
  obtain ⟨r1, r2, r3, r4⟩ := hR'
  obtain ⟨hk, ⟨hA0, hA1, hA2⟩, ⟨hk1, hk2, hk3⟩, ha⟩ := hF'
  obtain ⟨c1, c2, c3, c4⟩ := hC'
  have hr := pn_rng hpn
  unfold f_X2_jacobiSum
  refine b_ck r1 (wp_bd (t_clear hR (fun J0 hf0 hv0 => ?_)))
  unfold f_X2_jacobiSum_l7
  refine for1 (N := p) (fun x I' J' => I' = I ∧ (∀ b, b ≠ g + 1 → J' b = J b) ∧ ∀ k, k < 12 → J' (g + 1) k = jaO p n c d x k) ?_ ?_ (k := 0) (by omega) (by unfold fuel; omega) ⟨rfl, hf0, hv0⟩
  · rintro x I' J' R hx ⟨rfl, hfr, hv⟩ hr'
    unfold f_X2_jacobiSum_b7
    refine b_getIv hk c1 (wp_ifn (ge_f (by omega)) (b_ck hk (b_eq (t_character hF hC hpn hc hx) (b_getIv hk c1 ?_))))
    rw [show ((1 : Int32) - zn x) = zi (1 - x) from by rw [zn_zi]; exact zi_sub 1 x]
    refine b_eq (t_mod (zj_zi (by omega) (by omega)) (by omega) (by omega)) ?_
    rw [mod1x hx (by omega)]
    have hm := Nat.mod_lt (p + 1 - x) (show p > 0 by omega)
    refine b_ck hk (b_eq (t_character hF hC hpn hd hm) ?_)
    have hstep : ∀ k, jaO p n c d (x + 1) k = jaS p n c d x (jaO p n c d x) k := fun k => rfl
    cases hu : chi p n c x with
    | none =>
      refine wp_ifp chiV_none (hr' _ _ ⟨rfl, hfr, fun k hk => ?_⟩)
      rw [hstep]; unfold jaS; rw [hu]; exact hv k hk
    | some u =>
      have hul := chi_lt (show 0 < n by omega) hu
      refine wp_ifn (chiV_some (by omega)) ?_
      cases hw : chi p n d ((p + 1 - x) % p) with
      | none =>
        refine wp_ifp chiV_none (hr' _ _ ⟨rfl, hfr, fun k hk => ?_⟩)
        rw [hstep]; unfold jaS; rw [hu, hw]; exact hv k hk
      | some v =>
        have hvl := chi_lt (show 0 < n by omega) hw
        refine wp_ifn (chiV_some (by omega)) (b_getIv hk c2 (b_ck r1 ?_))
        show wp (mBd (f_X5_collect (some g) (zn u + zn v) 1 (zn n)) _) _ _
        rw [zn_add]
        have hmm := Nat.mod_lt (u + v) (show n > 0 by omega)
        refine b_eq (t_collect hR (by omega) (by omega)) (hr' _ _ ⟨rfl, fun b hb => ?_, ?_⟩)
        · rw [st2_nb hb]; exact hfr b hb
        · intro k hk
          rw [hstep]; unfold jaS; rw [hu, hw]
          exact ag_st2 hv (by rw [hv _ (by omega)]) k hk
  · rintro I' J' R ⟨rfl, hfr, hv⟩
    unfold f_X2_jacobiSum_b7
    refine b_getIv hk c1 (wp_ifp (ge_t (by omega)) (b_getIv hk c2 (b_ck r1 (wp_bd (t_settle hO hR (by omega) ho ho2 hog hv (jaO_low (by omega) _) (fun J'' hf2 hv2 => wp_rt (q J'' (fun b h1 h2 => ?_) hv2)))))))
    rw [hf2 b h1 h2, hfr b h1]
/-! parts -/
/-- the row's value at z, mod p -/
def pvS (p z : Nat) (c : Nat → Int64) : Nat → Int
  | 0 => 0
  | k + 1 => pvS p z c k + (c k).toInt * (z : Int) ^ k
def zOf (p n t : Nat) : Nat := rt p ^ (t * ((p - 1) / n)) % p
def prt (p n t : Nat) (c : Nat → Int64) : Nat := (pvS p (zOf p n t) c (phi n) % p).toNat
/-- small enough a row -/
def bnd (N : Nat) (B : Int) (c : Nat → Int64) : Prop := ∀ i, i < N → -B ≤ (c i).toInt ∧ (c i).toInt ≤ B
def hrn (z : Nat) (c : Nat → Int64) (L : Nat) : Nat → Int
  | 0 => 0
  | m + 1 => hrn z c L m * z + (c (L - 1 - m)).toInt
theorem hrn_eq (z : Nat) (c : Nat → Int64) (L : Nat) (p : Nat) : ∀ m, m ≤ L → hrn z c L m * (z : Int) ^ (L - m) + pvS p z c (L - m) = pvS p z c L := by
  intro m
  induction m with
  | zero => intro _; show 0 * _ + _ = _; rw [Int.zero_mul, Int.zero_add]; rfl
  | succ m ih =>
    intro h
    have := ih (by omega)
    rw [← this, show L - m = (L - (m + 1)) + 1 by omega]
    show (hrn z c L m * z + _) * _ + _ = _ + (_ + _ * _)
    rw [show L - 1 - m = L - (m + 1) by omega, Int.add_mul, Int.pow_succ]
    generalize (z : Int) ^ (L - (m + 1)) = e
    have : hrn z c L m * (e * z) = hrn z c L m * z * e := by rw [Int.mul_comm e, Int.mul_assoc]
    rw [this]
    omega
theorem t_partOf {a p n t x : Nat} {B : Int} (hO : OT K I) (hF : FS K A a) (hC : FC I a p n) (hpn : pn p n) (ht : t < n) (hx : kk K x = (2, 10)) (hB : bnd 10 1000000000 (J x)) : f_X2_partOf (some a) (some x) (zn t) (K, I, J, A) = some (zn (prt p n t (J x)), (K, I, J, A)) := by
  apply wp_get
  have hF' := hF
  have hC' := hC
  obtain ⟨hk, ⟨hA0, hA1, hA2⟩, ⟨hk1, hk2, hk3⟩, ha⟩ := hF'
  obtain ⟨c1, c2, c3, c4⟩ := hC'
  have hr := pn_rng hpn
  obtain ⟨p1, p2, p3⟩ := phi_rng hr.2.2.1 hr.2.2.2
  have hdv : n * ((p - 1) / n) = p - 1 := by
    have := Nat.div_add_mod (p - 1) n
    rw [hpn.2.2.2] at this
    omega
  have hts : t * ((p - 1) / n) < p - 1 := by
    have h1 : 1 ≤ (p - 1) / n := by
      apply Nat.le_of_not_lt
      intro h
      have : (p - 1) / n = 0 := Nat.lt_one_iff.mp h
      rw [this] at hdv
      omega
    have : t * ((p - 1) / n) < n * ((p - 1) / n) := Nat.mul_lt_mul_of_pos_right ht h1
    omega
  unfold f_X2_partOf
  refine b_getIv hk c2 (wp_ifp (ge_t (b := 1) (by omega)) (b_getIv hk c1 (b_getIv hk c2 (wp_rq (by rw [zn0 (by omega)]; omega) ?_))))
  rw [zn_pred1 (by omega), zdiv_zn (by omega) (by omega)]
  unfold f_X2_partOf_j23
  refine b_getA hk hA1 (b_getIv hk c1 ?_)
  rw [zn_mul, zn_pred1 (by omega)]
  refine b_eq (t_modn (zn_i64 (by omega)) (by omega) (by omega)) ?_
  rw [Nat.mod_eq_of_lt hts]
  refine b_eq (t_cellp hk2 (by omega) (by omega)) ?_
  rw [c3 _ hts]
  refine b_nm (b_ck hk ?_)
  unfold f_X2_rowLength
  refine b_assoc (b_getIv hk c2 (b_assoc (b_eq (t_lengthOf hO hr.2.2.2) (b_rt (b_nm ?_)))))
  have hz := Nat.mod_lt (rt p ^ (t * ((p - 1) / n))) (show p > 0 by omega)
  rw [show rt p ^ (t * ((p - 1) / n)) % p = zOf p n t from rfl] at hz ⊢
  generalize hzz : zOf p n t = z at hz
  rw [zn_64 (show z < 2147483648 by omega), zn_pred1 p1]
  unfold f_X2_partOf_l58
  refine pw2 (fun m u y => ∃ s, u = zj (hrn z (J x) (phi n) s % p) ∧ y = zi ((phi n : Int) - 1 - s) ∧ m = phi n - s ∧ s ≤ phi n) ?_ fuel (phi n) _ _ (by unfold fuel; omega) ⟨0, rfl, by rw [zn_zi]; congr 1; omega, by omega, by omega⟩
  rintro m u y R ⟨s, rfl, rfl, rfl, hs⟩ hR
  unfold f_X2_partOf_b58
  have hv1 := Int.emod_nonneg (hrn z (J x) (phi n) s) (show (p : Int) ≠ 0 by omega)
  have hv2 := Int.emod_lt_of_pos (hrn z (J x) (phi n) s) (show (0 : Int) < p by omega)
  by_cases he : s = phi n
  · refine wp_ifp (ilt_t (b := 0) (by omega)) (wp_rt ⟨?_, rfl⟩)
    rw [zj_32]
    unfold prt
    rw [hzz, ← hrn_eq z (J x) (phi n) p (phi n) (Nat.le_refl _), Nat.sub_self, ← he]
    show zi _ = zn ((hrn z (J x) s s * _ + 0) % _).toNat
    rw [he] at hv1 hv2 ⊢
    rw [Int.pow_zero, Int.mul_one, Int.add_zero, zn_zi]
    congr 1
    omega
  · refine wp_ifn (ilt_f (b := 0) (by omega)) ?_
    have hi : zi ((phi n : Int) - 1 - s) = zn (phi n - 1 - s) := by rw [zn_zi]; congr 1; omega
    rw [hi]
    refine b_eq (t_atp hx (by omega) (by omega)) (b_getIv hk c1 ?_)
    have hb := hB (phi n - 1 - s) (by omega)
    have hprod : hrn z (J x) (phi n) s % p * z ≤ 199 * 199 := Int.mul_le_mul (by omega) (by omega) (by omega) (by omega)
    have hprod0 : 0 ≤ hrn z (J x) (phi n) s % p * z := Int.mul_nonneg hv1 (by omega)
    have hX : (zj (hrn z (J x) (phi n) s % p) * zj z + J x (phi n - 1 - s)).toInt = hrn z (J x) (phi n) s % p * z + (J x (phi n - 1 - s)).toInt := by
      rw [← zj_self (J x (phi n - 1 - s)), zj_mul, zj_add, zj_toInt, zj_toInt] <;> omega
    refine b_eq (t_mod hX (by omega) (by omega)) (b_nm ?_)
    have hw1 := Int.emod_nonneg (hrn z (J x) (phi n) s % p * z + (J x (phi n - 1 - s)).toInt) (show (p : Int) ≠ 0 by omega)
    have hw2 := Int.emod_lt_of_pos (hrn z (J x) (phi n) s % p * z + (J x (phi n - 1 - s)).toInt) (show (0 : Int) < p by omega)
    refine hR _ _ _ (show phi n - (s + 1) < _ by omega) ⟨s + 1, ?_, ?_, rfl, by omega⟩
    · rw [zn_64 (by omega)]
      congr 1
      show _ = (hrn z (J x) (phi n) s * z + _) % _
      rw [show (((hrn z (J x) (phi n) s % p * z + (J x (phi n - 1 - s)).toInt) % (p : Int)).toNat : Int) = (hrn z (J x) (phi n) s % p * z + (J x (phi n - 1 - s)).toInt) % (p : Int) by omega]
      rw [Int.add_emod, Int.mul_emod, Int.emod_emod, ← Int.mul_emod, ← Int.add_emod]
    · rw [zn_predi]; congr 1; omega
end
