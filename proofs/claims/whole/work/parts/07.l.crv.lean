/-! ===== the curve ===== -/
def pwR (n : Nat) (x : Nat → Int64) : Nat → (Nat → Int64)
  | 0 => wu 1
  | i + 1 => mul n (pwR n x i) x
def cvT (p n k a b : Nat) : Int64 := if a + b = n then (if ¬ chi p n a (p - 1) = some 0 ∧ k % 2 = 1 then 1 else -1) else (if k % 2 = 0 then -(pwR n (jac p n a b) k 0) else pwR n (jac p n a b) k 0)
def pkI (p : Nat) : Nat → Int64
  | 0 => 1
  | i + 1 => pkI p i * zj p
def cvB (p n k a : Nat) (acc : Int64) : Nat → Int64
  | 0 => acc
  | j + 1 => if j = 0 then acc else cvB p n k a acc j + cvT p n k a j
def cvA (p n k : Nat) : Nat → Int64
  | 0 => pkI p k
  | a + 1 => if a = 0 then pkI p k else cvB p n k a (cvA p n k a) n
theorem cvB_1 {p n k a : Nat} {acc : Int64} : cvB p n k a acc 1 = acc := rfl
theorem cvB_s {p n k a j : Nat} {acc : Int64} (h : 1 ≤ j) : cvB p n k a acc (j + 1) = cvB p n k a acc j + cvT p n k a j := by
  show (if j = 0 then _ else _) = _
  rw [if_neg (by omega)]
theorem cvA_s {p n k a : Nat} (h : 1 ≤ a) : cvA p n k (a + 1) = cvB p n k a (cvA p n k a) n := by
  show (if a = 0 then _ else _) = _
  rw [if_neg (by omega)]
theorem res_idem {n : Nat} {x : Nat → Int64} : mul n (wu 1) x = mul n (wu 1) x := rfl
theorem pwR_1 {n : Nat} {x : Nat → Int64} (h1 : 2 ≤ n) (h2 : n ≤ 12) (hx : ∀ i, phi n ≤ i → x i = 0) : pwR n x 1 = x := by
  show mul n (wu 1) x = x
  rw [mul_wu h1 h2]
  funext i
  by_cases h : i < phi n
  · rw [if_pos h, Int64.one_mul]
  · rw [if_neg h, hx i (by omega)]
theorem jac_hi {p n a b i : Nat} (h : phi n ≤ i) : jac p n a b i = 0 := res_hi h
def cpw (c : Int64) : Nat → Int64
  | 0 => 1
  | k + 1 => cpw c k * c
theorem pwR_wu {n : Nat} {c : Int64} {x : Nat → Int64} (h1 : 2 ≤ n) (h2 : n ≤ 12) (hx : ∀ i, i < phi n → x i = wu c i) : ∀ k, pwR n x k = wu (cpw c k) := by
  have hp := phi_rng h1 h2
  intro k
  induction k with
  | zero => rfl
  | succ k ih =>
    show mul n (pwR n x k) x = _
    rw [ih, mul_wu h1 h2]
    funext i
    by_cases h : i < phi n
    · rw [if_pos h, hx i h]
      unfold wu
      by_cases h0 : i = 0
      · rw [if_pos h0, if_pos h0]; rfl
      · rw [if_neg h0, if_neg h0, Int64.mul_zero]
    · rw [if_neg h]
      unfold wu
      rw [if_neg (by omega)]
theorem pwR_congr {n : Nat} {x y : Nat → Int64} (h : ∀ i, i < phi n → x i = y i) : ∀ k, pwR n x k = pwR n y k := by
  intro k
  induction k with
  | zero => rfl
  | succ k ih =>
    show mul n _ _ = mul n _ _
    rw [ih, mul_congr (fun _ _ => rfl) h]
section
variable {β : Type} {K : List (Nat × Nat)} {I : Nat → Nat → Int32} {J : Nat → Nat → Int64} {A : Nat → Nat → Option Nat}
theorem irem2 {k : Nat} (hk : k < 100) : irem (zn k) (2 : Int32) = zn (k % 2) := irem_zn (b := 2) (by omega) (by omega)
theorem t_liftedSum {Q : Int64 → Hp → Prop} {a p n g o1 o2 c d k : Nat} (hO : OT K I) (hF : FS K A a) (hC : FC I a p n) (hpn : pn p n) (hR : RS K A g) (hc : c < 1000) (hd : d < 1000) (hk : 1 ≤ k ∧ k ≤ 4) (ho1 : kk K o1 = (2, 10)) (ho1b : 64 ≤ o1) (ho1g : o1 ≠ g + 1) (ho2 : kk K o2 = (2, 10)) (ho2b : 64 ≤ o2) (ho2g : o2 ≠ g + 1) (h12 : o1 ≠ o2)
    (q : ∀ J', (∀ b, b ≠ g + 1 → b ≠ o1 → b ≠ o2 → J' b = J b) → Q (if k % 2 = 0 then -(pwR n (jac p n c d) k 0) else pwR n (jac p n c d) k 0) (K, I, J', A)) : wp (f_X2_liftedSum (some a) (zn c) (zn d) (zn k) (some g) (some o1) (some o2)) Q (K, I, J, A) := by
  have hr := pn_rng hpn
  have hp := phi_rng hr.2.2.1 hr.2.2.2
  unfold f_X2_liftedSum
  refine b_ck hF.1 (wp_bd (t_jacobiSum hO hF hC hpn hR hc hd ho1 ho1b ho1g (fun J1 hf1 hv1 => wp_bd (t_copy ho1 ho2 ho2b (by omega) (by omega) h12 (fun J2 hf2 hv2 => ?_)))))
  unfold f_X2_liftedSum_l20
  refine for1 (N := k) (fun i I' J' => I' = I ∧ 1 ≤ i ∧ (∀ b, b ≠ g + 1 → b ≠ o1 → b ≠ o2 → J' b = J b) ∧ (∀ j, j < 10 → J' o1 j = jac p n c d j) ∧ ∀ j, j < 10 → J' o2 j = pwR n (jac p n c d) i j) ?_ ?_ (k := 1) (by omega) (by unfold fuel; omega) ⟨rfl, by omega, ?_, ?_, ?_⟩
  · rintro i I' J' R hi ⟨rfl, h1, hf, hva, hvb⟩ hR'
    unfold f_X2_liftedSum_b20
    refine wp_ifn (ge_f (by omega)) (b_getIv hF.1 hC.2.1 (b_ck hR.1 (wp_bd (t_multiply hO hR (by omega) ho2 ho1 ho2 ho2b ho2g ho2g ho1g (fun J3 hf3 hv3 => ?_)))))
    refine hR' _ _ ⟨rfl, by omega, fun b h2 h3 h4 => ?_, fun j hj => ?_, fun j hj => ?_⟩
    · rw [hf3 b h2 h4, hf b h2 h3 h4]
    · rw [hf3 o1 ho1g h12]; exact hva j hj
    · rw [hv3 j hj]
      show mul n _ _ j = mul n _ _ j
      rw [mul_congr (fun t ht => hvb t (by omega)) (fun t ht => hva t (by omega))]
  · rintro I' J' R ⟨rfl, h1, hf, hva, hvb⟩
    unfold f_X2_liftedSum_b20
    refine wp_ifp (ge_t (by omega)) ?_
    rw [irem2 (by omega)]
    have hq := q J' hf
    refine wp_ifq (not_congr (zn0 (by omega))) ?_
    by_cases h : k % 2 = 0
    · rw [if_pos h] at hq
      refine wp_ifn (fun q => q h) (b_eq (t_atp (j := 0) ho2 (by omega) (by omega)) (wp_rt ?_))
      rw [hvb 0 (by omega)]; exact hq
    · rw [if_neg h] at hq
      refine wp_ifp h (b_eq (t_atp (j := 0) ho2 (by omega) (by omega)) (wp_rt ?_))
      rw [hvb 0 (by omega)]; exact hq
  · intro b h2 h3 h4
    rw [hf2 b h4, hf1 b h2 h3]
  · intro j hj
    rw [hf2 o1 h12]; exact hv1 j hj
  · intro j hj
    rw [hv2 j hj, if_pos hj, hv1 j hj, pwR_1 hr.2.2.1 hr.2.2.2 (fun i hi => jac_hi hi)]
theorem t_oppositePair {a p n c k : Nat} (hF : FS K A a) (hC : FC I a p n) (hpn : pn p n) (hc : 1 ≤ c ∧ c < n) (hk : k < 100) : f_X2_oppositePair (some a) (zn c) (zn k) (K, I, J, A) = some (zi (if ¬ chi p n c (p - 1) = some 0 ∧ k % 2 = 1 then 1 else -1), (K, I, J, A)) := by
  apply wp_get
  have hr := pn_rng hpn
  unfold f_X2_oppositePair
  refine b_getIv hF.1 hC.1 ?_
  rw [zn_pred1 (by omega)]
  refine b_ck hF.1 (b_eq (t_character hF hC hpn (by omega) (by omega)) ?_)
  have hodd : ∀ s : Int32, ¬ s = 0 → ¬ chi p n c (p - 1) = some 0 → wp (f_X2_oppositePair_j19 (zn k) s) (fun r h' => r = zi (if ¬ chi p n c (p - 1) = some 0 ∧ k % 2 = 1 then 1 else -1) ∧ h' = (K, I, J, A)) (K, I, J, A) := by
    intro s hs hne
    unfold f_X2_oppositePair_j19
    refine wp_ifn hs ?_
    rw [irem2 hk]
    refine wp_ifq (not_congr (zn_inj (b := 1) (by omega) (by omega))) ?_
    by_cases h : k % 2 = 1
    · exact wp_ifn (fun q => q h) (wp_rt ⟨by rw [if_pos ⟨hne, h⟩]; rfl, rfl⟩)
    · exact wp_ifp h (wp_rt ⟨by rw [if_neg (fun q => h q.2)]; rfl, rfl⟩)
  rcases minus_one hpn hc.2 with h | ⟨he, h⟩
  · rw [h]
    refine wp_ifp (by rfl) ?_
    unfold f_X2_oppositePair_j19
    refine wp_ifp rfl (wp_rt ⟨?_, rfl⟩)
    rw [if_neg (fun q => q.1 rfl)]; rfl
  · rw [h] at hodd ⊢
    have hne : ¬ (some (n / 2) : Option Nat) = some 0 := by
      intro q
      have := Option.some.inj q
      omega
    refine wp_ifn ?_ (hodd 1 (by decide) hne)
    show ¬ zn (n / 2) = 0
    rw [zn0 (by omega)]
    omega
theorem i64_opp (P : Prop) [Decidable P] : (zi (if P then 1 else -1)).toInt64 = if P then 1 else -1 := by
  by_cases h : P
  · rw [if_pos h, if_pos h]; rfl
  · rw [if_neg h, if_neg h]; rfl
theorem t_pointsOfCurve {Q : Int64 → Hp → Prop} {a p n g o1 o2 k : Nat} (hO : OT K I) (hF : FS K A a) (hC : FC I a p n) (hpn : pn p n) (hR : RS K A g) (hk : 1 ≤ k ∧ k ≤ 4) (ho1 : kk K o1 = (2, 10)) (ho1b : 64 ≤ o1) (ho1g : o1 ≠ g + 1) (ho2 : kk K o2 = (2, 10)) (ho2b : 64 ≤ o2) (ho2g : o2 ≠ g + 1) (h12 : o1 ≠ o2)
    (q : ∀ J', (∀ b, b ≠ g + 1 → b ≠ o1 → b ≠ o2 → J' b = J b) → Q (cvA p n k n) (K, I, J', A)) : wp (f_X2_pointsOfCurve (some a) (zn k) (some g) (some o1) (some o2)) Q (K, I, J, A) := by
  have hr := pn_rng hpn
  unfold f_X2_pointsOfCurve f_X2_pointsOfCurve_l6
  refine for2 (N := k) (fun i x I' J' => I' = I ∧ J' = J ∧ x = pkI p i) ?_ ?_ (k := 0) (by omega) (by unfold fuel; omega) ⟨rfl, rfl, rfl⟩
  · rintro i x I' J' R hi ⟨rfl, rfl, rfl⟩ hR'
    unfold f_X2_pointsOfCurve_b6
    refine wp_ifn (ge_f (by omega)) (b_getIv hF.1 hC.1 (b_nm (hR' _ _ _ ⟨rfl, rfl, ?_⟩)))
    rw [zn_64 (by omega)]; rfl
  · rintro x I' J' R ⟨rfl, rfl, rfl⟩
    unfold f_X2_pointsOfCurve_b6
    refine wp_ifp (ge_t (by omega)) ?_
    unfold f_X2_pointsOfCurve_l31
    refine for2 (N := n) (fun c x I'' J'' => I'' = I' ∧ 1 ≤ c ∧ (∀ b, b ≠ g + 1 → b ≠ o1 → b ≠ o2 → J'' b = J' b) ∧ x = cvA p n k c) ?_ ?_ (k := 1) (by omega) (by unfold fuel; omega) ⟨rfl, by omega, fun b _ _ _ => rfl, rfl⟩
    · rintro c x I'' J'' R2 hc ⟨rfl, h1, hf, rfl⟩ hR2
      unfold f_X2_pointsOfCurve_b31
      refine b_getIv hF.1 hC.2.1 (wp_ifn (ge_f (by omega)) ?_)
      unfold f_X2_pointsOfCurve_l43
      refine for2 (N := n) (fun d x I3 J3 => I3 = I'' ∧ 1 ≤ d ∧ (∀ b, b ≠ g + 1 → b ≠ o1 → b ≠ o2 → J3 b = J' b) ∧ x = cvB p n k c (cvA p n k c) d) ?_ ?_ (k := 1) (by omega) (by unfold fuel; omega) ⟨rfl, by omega, hf, rfl⟩
      · rintro d x I3 J3 R3 hd ⟨rfl, h2, hf3, rfl⟩ hR3
        unfold f_X2_pointsOfCurve_b43
        refine b_getIv hF.1 hC.2.1 (wp_ifn (ge_f (by omega)) (b_getIv hF.1 hC.2.1 ?_))
        rw [zn_add]
        refine wp_ifq (not_congr (zn_inj (by omega) (by omega))) ?_
        by_cases he : c + d = n
        · refine wp_ifn (fun q => q he) (b_ck hF.1 (b_eq (t_oppositePair hF hC hpn ⟨h1, hc⟩ (by omega)) (b_nm (hR3 _ _ _ ⟨rfl, by omega, hf3, ?_⟩))))
          rw [cvB_s h2, i64_opp]
          unfold cvT
          rw [if_pos he]
        · refine wp_ifp he (b_ck hF.1 (wp_bd (t_liftedSum hO hF hC hpn hR (by omega) (by omega) hk ho1 ho1b ho1g ho2 ho2b ho2g h12 (fun J4 hf4 => b_nm (hR3 _ _ _ ⟨rfl, by omega, fun b h3 h4 h5 => ?_, ?_⟩)))))
          · rw [hf4 b h3 h4 h5, hf3 b h3 h4 h5]
          · rw [cvB_s h2]
            unfold cvT
            rw [if_neg he]
      · rintro x I3 J3 R3 ⟨rfl, h2, hf3, rfl⟩
        unfold f_X2_pointsOfCurve_b43
        exact b_getIv hF.1 hC.2.1 (wp_ifp (ge_t (by omega)) (hR2 _ _ _ ⟨rfl, by omega, hf3, (cvA_s h1).symm⟩))
    · rintro x I'' J'' R2 ⟨rfl, h1, hf, rfl⟩
      unfold f_X2_pointsOfCurve_b31
      exact b_getIv hF.1 hC.2.1 (wp_ifp (ge_t (by omega)) (wp_rt (q J'' hf)))
theorem t_powerRow {Q : Unit → Hp → Prop} {m f p n a k to : Nat} (hM : MS K A m) (hF : RFS K A f) (hC : RFC I J f p n) (hfm : f + 2 ≠ m + 2) (hfm1 : f + 2 ≠ m + 1) (hpn : pn p n) (ha : a < 48) (hto : to < 48) (hat : a ≠ to) (hk : k ≤ 4)
    (q : ∀ J', rfr m to J J' → (∀ i, i < 12 → rv J' m to i = pwR n (rv J m a) k i) → Q () (K, I, J', A)) : wp (f_X13_powerRow (some m) (some f) (zn a) (zn k) (zn to)) Q (K, I, J, A) := by
  have hr := pn_rng hpn
  have hp := phi_rng hr.2.2.1 hr.2.2.2
  unfold f_X13_powerRow
  refine b_ck hM.1 (wp_bd (t_wholeRow hM hto (fun J1 hf1 hv1 => ?_)))
  unfold f_X13_powerRow_l10
  refine for1 (N := k) (fun i I' J' => I' = I ∧ rfr m to J J' ∧ ∀ j, j < 12 → rv J' m to j = pwR n (rv J m a) i j) ?_ ?_ (k := 0) (by omega) (by unfold fuel; omega) ⟨rfl, hf1, hv1⟩
  · rintro i I' J' R hi ⟨rfl, hf, hv⟩ hR
    unfold f_X13_powerRow_b10
    refine wp_ifn (ge_f (by omega)) (b_ck hM.1 (wp_bd (t_multiplyR hM hF (hC.mv (hf.1 _ hfm1 hfm)) hfm hfm1 (by omega) hto ha hto (fun J2 hf2 hv2 => hR _ _ ⟨rfl, hf.trans hf2, fun j hj => ?_⟩))))
    rw [hv2 j hj]
    show mul n _ _ j = mul n _ _ j
    rw [mul_congr (fun t ht => hv t (by omega)) (fun t ht => hf.row hat t (by omega))]
  · rintro I' J' R ⟨rfl, hf, hv⟩
    unfold f_X13_powerRow_b10
    exact wp_ifp (ge_t (by omega)) (wp_rt (q J' hf hv))
theorem t_curveR {Q : Int64 → Hp → Prop} {m f p n k : Nat} (hM : MS K A m) (hF : RFS K A f) (hC : RFC I J f p n) (hfm : f + 2 ≠ m + 2) (hfm1 : f + 2 ≠ m + 1) (hpn : pn p n) (hk : 1 ≤ k ∧ k ≤ 4)
    (h36 : J (m + 1) 36 = 1)
    (q : ∀ J', (∀ b, b ≠ m + 1 → b ≠ m + 2 → J' b = J b) → wp (mBd (mCk 11 (some m) (f_X13_goodLong (some m) (cvA p n k n))) (fun r => mRt r)) Q (K, I, J', A)) : wp (f_X13_curve_l55 (some m) (zn k) (some f) 0) Q (K, I, J, A) := by
  have hr := pn_rng hpn
  have hp := phi_rng hr.2.2.1 hr.2.2.2
  have hM' := hM
  obtain ⟨m0, ⟨a5, a6, a7, a21, a22, a23, a24, a25, a26, a27⟩, ⟨k1, k2, k3, k4, k5, k6, k7, k8, k9, k10⟩, hm⟩ := hM'
  have hF' := hF
  obtain ⟨f0, ⟨fa4, fa5⟩, ⟨fk1, fk2⟩, hf⟩ := hF'
  have fm : f + 2 ≠ m + 1 := hfm1
  unfold f_X13_curve_l55
  refine for1 (N := k) (fun i I' J' => I' = I ∧ (∀ b, b ≠ m + 1 → b ≠ m + 2 → J' b = J b) ∧ J' (m + 1) 36 = pkI p i) ?_ ?_ (k := 0) (by omega) (by unfold fuel; omega) ⟨rfl, fun b _ _ => rfl, h36⟩
  · rintro i I' J' R hi ⟨rfl, hf1, hv⟩ hR
    unfold f_X13_curve_b55
    refine wp_ifn (ge_f (by omega)) (b_getA m0 a5 (b_ldJ (j := 36) k1 (by omega) (by omega) (b_getIv f0 hC.1.1 (b_stJ (j := 36) k1 (by omega) (by omega) (by omega) (hR _ _ ⟨rfl, fun b h1 h2 => ?_, ?_⟩)))))
    · rw [st2_nb h1]; exact hf1 b h1 h2
    · rw [st2_at, hv, zn_64 (by omega)]; rfl
  · rintro I' J0 R ⟨rfl, hf0, hv0⟩
    unfold f_X13_curve_b55
    refine wp_ifp (ge_t (by omega)) ?_
    unfold f_X13_curve_l85
    refine for1 (N := n) (fun c I'' J'' => I'' = I' ∧ 1 ≤ c ∧ (∀ b, b ≠ m + 1 → b ≠ m + 2 → J'' b = J b) ∧ J'' (m + 1) 36 = cvA p n k c) ?_ ?_ (k := 1) (by omega) (by unfold fuel; omega) ⟨rfl, by omega, hf0, hv0⟩
    · rintro c I'' J'' R2 hc ⟨rfl, h1, hf2, hv2⟩ hR2
      unfold f_X13_curve_b85
      refine b_getIv f0 hC.1.2.1 (wp_ifn (ge_f (by omega)) ?_)
      unfold f_X13_curve_l97
      refine for1 (N := n) (fun d I3 J3 => I3 = I'' ∧ 1 ≤ d ∧ (∀ b, b ≠ m + 1 → b ≠ m + 2 → J3 b = J b) ∧ J3 (m + 1) 36 = cvB p n k c (cvA p n k c) d) ?_ ?_ (k := 1) (by omega) (by unfold fuel; omega) ⟨rfl, by omega, hf2, hv2⟩
      · rintro d I3 J3 R3 hd ⟨rfl, h2, hf3, hv3⟩ hR3
        have hC3 : RFC I3 J3 f p n := hC.mv (hf3 _ hfm1 hfm)
        -- what is added, once row 1 is made
        have tail : ∀ (J4 : Nat → Nat → Int64) (v : Int64), (∀ b, b ≠ m + 1 → b ≠ m + 2 → J4 b = J b) → J4 (m + 1) 36 = cvB p n k c (cvA p n k c) d → v * rv J4 m 1 0 = cvT p n k c d → wp (mBd (mCk 11 (some m) (f_X13_added (some m) (3 : Int32) (1 : Int32) v)) (fun _ => R3 (zn d + 1))) Q (K, I3, J4, A) := by
          intro J4 v hf4 hv4 hx
          refine b_ck m0 (wp_bd (t_added (to := 3) (a := 1) hM (by omega) (by omega) (by omega) (fun J5 hf5 hv5 => hR3 _ _ ⟨rfl, by omega, fun b h3 h4 => ?_, ?_⟩)))
          · rw [hf5.1 b h3 h4, hf4 b h3 h4]
          · have := hv5 0 (by omega)
            rw [hx] at this
            rw [cvB_s h2, ← hv4]
            exact this
        unfold f_X13_curve_b97
        refine b_getIv f0 hC3.1.2.1 (wp_ifn (ge_f (by omega)) (b_getIv f0 hC3.1.2.1 ?_))
        rw [zn_add]
        refine wp_ifq (not_congr (zn_inj (by omega) (by omega))) ?_
        by_cases he : c + d = n
        · refine wp_ifn (fun q => q he) (b_ck m0 (wp_bd (t_clearWide hM (fun J4 hf4 hv4 => b_getA m0 a6 (b_getIv f0 hC3.1.1 ?_)))))
          rw [zn_pred1 (by omega)]
          have hC4 : RFC I3 J4 f p n := hC3.mv (hf4 _ hfm)
          refine b_eq (t_atR hF hC4 hpn (by omega) (by omega)) ?_
          rw [Nat.mod_eq_of_lt (show p - 1 < p by omega)]
          obtain ⟨e, s, hce, hen, hrow, hs⟩ : ∃ (e : Nat) (s : Int64), chi p n c (p - 1) = some e ∧ e < n ∧ (∀ i, i < 12 → res n (setf wz e 1) i = wu s i) ∧ (-1) * cpw s k = cvT p n k c d := by
            have hkk : k = 1 ∨ k = 2 ∨ k = 3 ∨ k = 4 := by omega
            rcases minus_one hpn hc with h | ⟨hev, h⟩
            · refine ⟨0, 1, h, by omega, fun i _ => by rw [zero_row hr.2.2.1 hr.2.2.2], ?_⟩
              unfold cvT
              rw [if_pos he, if_neg (fun q => q.1 h)]
              rcases hkk with rfl | rfl | rfl | rfl <;> rfl
            · refine ⟨n / 2, -1, h, by omega, half_row hr.2.2.1 hr.2.2.2 hev, ?_⟩
              have hne : ¬ (some (n / 2) : Option Nat) = some 0 := by
                intro q
                have := Option.some.inj q
                omega
              unfold cvT
              rw [if_pos he, h]
              rcases hkk with rfl | rfl | rfl | rfl
              · rw [if_pos ⟨hne, rfl⟩]; rfl
              · rw [if_neg (fun q => absurd q.2 (by decide))]; rfl
              · rw [if_pos ⟨hne, rfl⟩]; rfl
              · rw [if_neg (fun q => absurd q.2 (by decide))]; rfl
          rw [hce]
          show wp (mBd (mStJ (some (m + 2)) (zn e) 1) _) _ _
          refine b_stJ k2 (by omega) (by omega) (by omega) (b_ck m0 (wp_bd ?_))
          have hC5 : RFC I3 (st2 J4 (m + 2) e 1) f p n := hC4.mv (by rw [st2_nb hfm])
          refine t_settles (to := 0) hM hF hC5 hfm hfm1 (by omega) (by omega) (w := setf wz e 1) (ag_st2 hv4 rfl) (fun i hi => by rw [setf_ne (by omega)]; rfl) (fun J6 hf6 hv6 => b_ck m0 (wp_bd ?_))
          have hC6 : RFC I3 J6 f p n := hC5.mv (hf6.1 _ hfm1 hfm)
          refine t_powerRow (a := 0) (to := 1) hM hF hC6 hfm hfm1 hpn (by omega) (by omega) (by omega) (by omega) (fun J7 hf7 hv7 => tail J7 (-1) ?_ ?_ ?_)
          · intro b h3 h4
            rw [hf7.1 b h3 h4, hf6.1 b h3 h4, st2_nb h4, hf4 b h4, hf3 b h3 h4]
          · rw [hf7.2 36 (by omega), hf6.2 36 (by omega), st2_na (by omega), hf4 (m + 1) (by omega)]; exact hv3
          · rw [hv7 0 (by omega), pwR_wu hr.2.2.1 hr.2.2.2 (fun i hi => (hv6 i (by omega)).trans (hrow i (by omega))), ← hs]; rfl
        · refine wp_ifp he (b_ck m0 (wp_bd (t_jacobiRow (to := 0) hM hF hC3 hfm hfm1 hpn (by omega) (by omega) (by omega) (fun J4 hf4 hv4 => b_ck m0 (wp_bd ?_)))))
          have hC4 : RFC I3 J4 f p n := hC3.mv (hf4.1 _ hfm1 hfm)
          refine t_powerRow (a := 0) (to := 1) hM hF hC4 hfm hfm1 hpn (by omega) (by omega) (by omega) (by omega) (fun J5 hf5 hv5 => ?_)
          have e0 : rv J5 m 1 0 = pwR n (jac p n c d) k 0 := by
            rw [hv5 0 (by omega), pwR_congr (fun i hi => hv4 i (by omega))]
          have fr5 : ∀ b, b ≠ m + 1 → b ≠ m + 2 → J5 b = J b := fun b h3 h4 => by rw [hf5.1 b h3 h4, hf4.1 b h3 h4, hf3 b h3 h4]
          have v5 : J5 (m + 1) 36 = cvB p n k c (cvA p n k c) d := by rw [hf5.2 36 (by omega), hf4.2 36 (by omega)]; exact hv3
          rw [irem2 (by omega)]
          refine wp_ifq (not_congr (zn0 (by omega))) ?_
          by_cases h : k % 2 = 0
          · refine wp_ifn (fun q => q h) (tail J5 (-1) fr5 v5 ?_)
            unfold cvT
            rw [e0, if_neg he, if_pos h, Int64.neg_mul, Int64.one_mul]
          · refine wp_ifp h (tail J5 1 fr5 v5 ?_)
            unfold cvT
            rw [e0, if_neg he, if_neg h, Int64.one_mul]
      · rintro I3 J3 R3 ⟨rfl, h2, hf3, hv3⟩
        unfold f_X13_curve_b97
        refine b_getIv f0 hC.1.2.1 (wp_ifp (ge_t (by omega)) (hR2 _ _ ⟨rfl, by omega, hf3, ?_⟩))
        rw [hv3, cvA_s h1]
    · rintro I'' J'' R2 ⟨rfl, h1, hf2, hv2⟩
      unfold f_X13_curve_b85
      refine b_getIv f0 hC.1.2.1 (wp_ifp (ge_t (by omega)) (b_getA m0 a5 (b_ldJ (j := 36) k1 (by omega) (by omega) ?_)))
      rw [hv2]
      exact q J'' hf2
end
