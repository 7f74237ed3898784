/-! ===== rows in the reference ===== -/
def MS (K : List (Nat × Nat)) (A : Nat → Nat → Option Nat) (m : Nat) : Prop :=
  kk K m = (0, 11) ∧ (A m 5 = some (m + 1) ∧ A m 6 = some (m + 2) ∧ A m 7 = some (m + 3) ∧ A m 21 = some (m + 4) ∧ A m 22 = some (m + 5) ∧ A m 23 = some (m + 6) ∧ A m 24 = some (m + 7) ∧ A m 25 = some (m + 8) ∧ A m 26 = some (m + 9) ∧ A m 27 = some (m + 10)) ∧
  (kk K (m + 1) = (2, 576) ∧ kk K (m + 2) = (2, 12) ∧ kk K (m + 3) = (3, 900) ∧ kk K (m + 4) = (1, 199) ∧ kk K (m + 5) = (1, 199) ∧ kk K (m + 6) = (1, 199) ∧ kk K (m + 7) = (2, 49) ∧ kk K (m + 8) = (2, 980) ∧ kk K (m + 9) = (2, 980) ∧ kk K (m + 10) = (2, 196)) ∧ 64 ≤ m
def RFS (K : List (Nat × Nat)) (A : Nat → Nat → Option Nat) (f : Nat) : Prop := kk K f = (0, 10) ∧ (A f 4 = some (f + 1) ∧ A f 5 = some (f + 2)) ∧ (kk K (f + 1) = (1, 200) ∧ kk K (f + 2) = (2, 13)) ∧ 64 ≤ f
def RFC (I : Nat → Nat → Int32) (J : Nat → Nat → Int64) (f p n : Nat) : Prop := (I f 0 = zn p ∧ I f 1 = zn n ∧ I f 2 = zn (rt p) ∧ I f 3 = zn (phi n)) ∧ (∀ x, 1 ≤ x → x < p → I (f + 1) x = zn (lg p x)) ∧ ∀ k, k ≤ phi n → J (f + 2) k = lst n k
/-- the reference's row r -/
def rv (J : Nat → Nat → Int64) (m r : Nat) : Nat → Int64 := fun k => J (m + 1) (r * 12 + k)
theorem RFC.mv {I : Nat → Nat → Int32} {J J' : Nat → Nat → Int64} {f p n : Nat} (h : RFC I J f p n) (e : J' (f + 2) = J (f + 2)) : RFC I J' f p n := ⟨h.1, h.2.1, fun k hk => by rw [e]; exact h.2.2 k hk⟩
section
variable {β : Type} {K : List (Nat × Nat)} {I : Nat → Nat → Int32} {J : Nat → Nat → Int64} {A : Nat → Nat → Option Nat}
theorem r12 (r k : Nat) : zn r * (12 : Int32) + zn k = zn (r * 12 + k) := by rw [show (12 : Int32) = zn 12 from rfl, zn_mul, zn_add]
/-- only the row 'to' is written, and the wide one -/
def rfr (m to : Nat) (J J' : Nat → Nat → Int64) : Prop := (∀ b, b ≠ m + 1 → b ≠ m + 2 → J' b = J b) ∧ ∀ j, (j < to * 12 ∨ to * 12 + 12 ≤ j) → J' (m + 1) j = J (m + 1) j
theorem rfr.row {m to r : Nat} {J J' : Nat → Nat → Int64} (h : rfr m to J J') (hr : r ≠ to) : ∀ k, k < 12 → rv J' m r k = rv J m r k := fun k hk => h.2 _ (by omega)
theorem rfr.trans {m to : Nat} {J J' J'' : Nat → Nat → Int64} (h : rfr m to J J') (h2 : rfr m to J' J'') : rfr m to J J'' := ⟨fun b h3 h4 => (h2.1 b h3 h4).trans (h.1 b h3 h4), fun j hj => (h2.2 j hj).trans (h.2 j hj)⟩
theorem t_clearWide {Q : Unit → Hp → Prop} {m : Nat} (hM : MS K A m) (q : ∀ J', (∀ b, b ≠ m + 2 → J' b = J b) → (∀ i, i < 12 → J' (m + 2) i = wz i) → Q () (K, I, J', A)) : wp (f_X13_clearWide (some m)) Q (K, I, J, A) := by
  obtain ⟨m0, ⟨a5, a6, a7, a21, a22, a23, a24, a25, a26, a27⟩, ⟨k1, k2, k3, k4, k5, k6, k7, k8, k9, k10⟩, hm⟩ := hM
  unfold f_X13_clearWide f_X13_clearWide_l2
  refine for1 (N := 12) (fun k I' J' => I' = I ∧ (∀ b, b ≠ m + 2 → J' b = J b) ∧ ∀ i, i < k → J' (m + 2) i = wz i) ?_ ?_ (k := 0) (by omega) (by unfold fuel; omega) ⟨rfl, fun b _ => rfl, fun i _ => by omega⟩
  · rintro k I' J' R hk ⟨rfl, hfr, hv⟩ hR
    unfold f_X13_clearWide_b2
    refine wp_ifn (ge_f (b := 12) (by omega)) (b_getA m0 a6 (b_stJ k2 (by omega) hk (by omega) (hR _ _ ⟨rfl, fun b hb => ?_, fun i hi => ?_⟩)))
    · rw [st2_nb hb]; exact hfr b hb
    · by_cases hik : i = k
      · subst hik; exact st2_at
      · rw [st2_nk hik]; exact hv i (by omega)
  · rintro I' J' R ⟨rfl, hfr, hv⟩
    unfold f_X13_clearWide_b2
    exact wp_ifp (ge_t (b := 12) (by omega)) (wp_rt (q J' hfr hv))
theorem stI_zero {n base : Nat} {w : Nat → Int64} : ∀ k, stI n 0 base w k = w := by
  intro k
  induction k with
  | zero => rfl
  | succ k ih =>
    show setf (stI n 0 base w k) _ _ = w
    rw [ih]
    funext i
    by_cases h : i = base + k
    · rw [h, setf_at, Int64.zero_mul, Int64.sub_zero]
    · rw [setf_ne h]
theorem t_settlesI {m f n hi to : Nat} {w : Nat → Int64} {much : Int64} {p : Nat} {Kc : Int32 → Mo Unit} {Q : Unit → Hp → Prop} (hM : MS K A m) (hF : RFS K A f) (hC : RFC I J f p n) (hfm : f + 2 ≠ m + 2) (hn : 2 ≤ n ∧ n ≤ 12) (hhi : phi n ≤ hi ∧ hi < 12) (hw : ∀ i, i < 12 → J (m + 2) i = w i)
    (q : ∀ J', (∀ b, b ≠ m + 2 → J' b = J b) → (∀ i, i < 12 → J' (m + 2) i = stI n much (hi - phi n) w (phi n + 1) i) → wp (Kc (zn hi + (-1))) Q (K, I, J', A)) : wp (f_X13_settles_l50 Kc (some m) (some f) (zn to) (zn hi) much (zn 0)) Q (K, I, J, A) := by
  obtain ⟨m0, ⟨a5, a6, a7, a21, a22, a23, a24, a25, a26, a27⟩, ⟨k1, k2, k3, k4, k5, k6, k7, k8, k9, k10⟩, hm⟩ := hM
  obtain ⟨f0, ⟨fa4, fa5⟩, ⟨fk1, fk2⟩, hf⟩ := hF
  obtain ⟨⟨c1, c2, c3, c4⟩, c5, c6⟩ := hC
  obtain ⟨p1, p2, p3⟩ := phi_rng hn.1 hn.2
  unfold f_X13_settles_l50
  refine for1 (N := phi n + 1) (fun k I' J' => I' = I ∧ (∀ b, b ≠ m + 2 → J' b = J b) ∧ ∀ i, i < 12 → J' (m + 2) i = stI n much (hi - phi n) w k i) ?_ ?_ (k := 0) (by omega) (by unfold fuel; omega) ⟨rfl, fun b _ => rfl, hw⟩
  · rintro k I' J' R hk ⟨rfl, hfr, hv⟩ hR
    unfold f_X13_settles_b50
    refine b_getIv f0 c4 (wp_ifn (gt_f (by omega)) (b_getA m0 a6 (b_getIv f0 c4 ?_)))
    rw [zn_sub (by omega), zn_add]
    refine b_ldJ k2 (by omega) (by omega) (b_getA f0 fa5 (b_ldJ fk2 (by omega) (by omega) (b_stJ k2 (by omega) (by omega) (by omega) (hR _ _ ⟨rfl, fun b hb => ?_, ?_⟩))))
    · rw [st2_nb hb]; exact hfr b hb
    · refine ag_st2 hv ?_
      rw [hv _ (by omega), hfr _ hfm, c6 k (by omega)]
  · rintro I' J' R ⟨rfl, hfr, hv⟩
    unfold f_X13_settles_b50
    exact b_getIv f0 c4 (wp_ifp (gt_t (by omega)) (q J' hfr hv))
theorem t_settles {Q : Unit → Hp → Prop} {m f p n to : Nat} {w : Nat → Int64} (hM : MS K A m) (hF : RFS K A f) (hC : RFC I J f p n) (hfm : f + 2 ≠ m + 2) (hfm1 : f + 2 ≠ m + 1) (hn : 2 ≤ n ∧ n ≤ 12) (hto : to < 48) (hw : ∀ i, i < 12 → J (m + 2) i = w i) (hl : Lown n w)
    (q : ∀ J', rfr m to J J' → (∀ k, k < 12 → rv J' m to k = res n w k) → Q () (K, I, J', A)) : wp (f_X13_settles (some m) (some f) (zn to)) Q (K, I, J, A) := by
  have hM' := hM
  have hF' := hF
  have hC' := hC
  obtain ⟨m0, ⟨a5, a6, a7, a21, a22, a23, a24, a25, a26, a27⟩, ⟨k1, k2, k3, k4, k5, k6, k7, k8, k9, k10⟩, hm⟩ := hM'
  obtain ⟨f0, ⟨fa4, fa5⟩, ⟨fk1, fk2⟩, hf⟩ := hF'
  obtain ⟨⟨c1, c2, c3, c4⟩, c5, c6⟩ := hC'
  obtain ⟨p1, p2, p3⟩ := phi_rng hn.1 hn.2
  unfold f_X13_settles f_X13_settles_l7
  refine b_getIv f0 c2 (b_nm ?_)
  rw [zn_pred1 (by omega)]
  refine while1 (fun mm x I' J' => ∃ t, x = zn (n - 1 - t) ∧ mm = n - phi n - t ∧ t ≤ n - phi n ∧ I' = I ∧ (∀ b, b ≠ m + 2 → J' b = J b) ∧ ∀ i, i < 12 → J' (m + 2) i = stH n w t i) ?_ fuel (n - phi n) _ I J (by unfold fuel; omega) ⟨0, by rw [Nat.sub_zero], rfl, by omega, rfl, fun b _ => rfl, hw⟩
  rintro mm x I' J' R ⟨t, rfl, rfl, ht, rfl, hfr, hv⟩ hr
  unfold f_X13_settles_b7
  refine b_getIv f0 c4 ?_
  by_cases h : t = n - phi n
  · refine wp_ifp (lt_t (by omega)) ?_
    unfold f_X13_settles_l100
    refine for1 (N := 12) (fun k I'' J'' => I'' = I' ∧ rfr m to J' J'' ∧ J'' (m + 2) = J' (m + 2) ∧ ∀ i, i < k → rv J'' m to i = res n w i) ?_ ?_ (k := 0) (by omega) (by unfold fuel; omega) ⟨rfl, ⟨fun b _ _ => rfl, fun j _ => rfl⟩, rfl, fun i _ => by omega⟩
    · rintro k I'' J'' R2 hk ⟨rfl, hfr2, hw2, hv2⟩ hR
      unfold f_X13_settles_b100
      refine wp_ifn (ge_f (b := 12) (by omega)) (b_getA m0 a5 (b_getIv f0 c4 ?_))
      have fin : ∀ v : Int64, v = res n w k → wp (mBd (mStJ (some (m + 1)) (zn to * (12 : Int32) + zn k) v) (fun _ => R2 (zn k + 1))) Q (K, I'', J'', A) := by
        intro v hv'
        rw [r12]
        refine b_stJ k1 (by omega) (by omega) (by omega) (hR _ _ ⟨rfl, ⟨fun b h1 h2 => ?_, fun j hj => ?_⟩, ?_, fun i hi => ?_⟩)
        · rw [st2_nb h1]; exact hfr2.1 b h1 h2
        · rw [st2_nk (by omega)]; exact hfr2.2 j hj
        · rw [st2_nb (by omega)]; exact hw2
        · unfold rv
          by_cases hik : i = k
          · subst hik; rw [st2_at, hv']
          · rw [st2_nk (by omega)]; exact hv2 i (by omega)
      by_cases hkp : k < phi n
      · refine wp_ifn (ge_f (by omega)) (b_getA m0 a6 (b_ldJ k2 (by omega) (by omega) (fin _ ?_)))
        rw [hw2, hv k hk, h, res_eq hn.1 hn.2 (fun i h1 _ => hl i h1) hk]
      · exact wp_ifp (ge_t (by omega)) (fin _ (by rw [res_hi (by omega)]))
    · rintro I'' J'' R2 ⟨rfl, hfr2, hw2, hv2⟩
      unfold f_X13_settles_b100
      refine wp_ifp (ge_t (b := 12) (by omega)) (wp_rt (q J'' ⟨fun b h1 h2 => ?_, fun j hj => ?_⟩ hv2))
      · rw [hfr2.1 b h1 h2, hfr b h2]
      · rw [hfr2.2 j hj, hfr (m + 1) (by omega)]
  · refine wp_ifn (lt_f (by omega)) (b_getA m0 a6 (b_ldJ k2 (by omega) (by omega) ?_))
    have hC2 := hC.mv (hfr (f + 2) hfm)
    have next : ∀ J'', (∀ b, b ≠ m + 2 → J'' b = J' b) → (∀ i, i < 12 → J'' (m + 2) i = stI n (J' (m + 2) (n - 1 - t)) (n - 1 - t - phi n) (stH n w t) (phi n + 1) i) → wp (R (zn (n - 1 - t) + (-1))) Q (K, I', J'', A) := by
      intro J'' hf2 hv2
      rw [show n - 1 - t = (n - 1 - (t + 1)) + 1 by omega, zn_pred]
      refine hr (n - phi n - (t + 1)) _ _ _ (by omega) ⟨t + 1, rfl, rfl, by omega, rfl, fun b hb => ?_, ?_⟩
      · rw [hf2 b hb, hfr b hb]
      · intro i hi
        rw [hv2 i hi, hv _ (by omega)]; rfl
    by_cases hz : J' (m + 2) (n - 1 - t) = 0
    · refine wp_ifn (fun q => q hz) (next J' (fun b _ => rfl) (fun i hi => ?_))
      rw [hz, stI_zero]; exact hv i hi
    · refine wp_ifp hz (b_getA f0 fa5 (b_getIv f0 c4 (b_ldJ fk2 (by omega) (by omega) (b_nm ?_))))
      rw [hC2.2.2 _ (Nat.le_refl _), lst_top n (by omega) hn.1, Int64.mul_one]
      exact t_settlesI hM hF hC2 hfm hn (by omega) hv next
theorem t_multiplyR {Q : Unit → Hp → Prop} {m f p n a b to : Nat} (hM : MS K A m) (hF : RFS K A f) (hC : RFC I J f p n) (hfm : f + 2 ≠ m + 2) (hfm1 : f + 2 ≠ m + 1) (hn : 2 ≤ n ∧ n ≤ 12) (ha : a < 48) (hb : b < 48) (hto : to < 48)
    (q : ∀ J', rfr m to J J' → (∀ k, k < 12 → rv J' m to k = mul n (rv J m a) (rv J m b) k) → Q () (K, I, J', A)) : wp (f_X13_multiply (some m) (some f) (zn a) (zn b) (zn to)) Q (K, I, J, A) := by
  have hM' := hM
  have hF' := hF
  have hC' := hC
  obtain ⟨m0, ⟨a5, a6, a7, a21, a22, a23, a24, a25, a26, a27⟩, ⟨k1, k2, k3, k4, k5, k6, k7, k8, k9, k10⟩, hm⟩ := hM'
  obtain ⟨f0, ⟨fa4, fa5⟩, ⟨fk1, fk2⟩, hf⟩ := hF'
  obtain ⟨⟨c1, c2, c3, c4⟩, c5, c6⟩ := hC'
  obtain ⟨p1, p2, p3⟩ := phi_rng hn.1 hn.2
  unfold f_X13_multiply
  refine b_ck m0 (wp_bd (t_clearWide hM (fun J0 hf0 hv0 => ?_)))
  unfold f_X13_multiply_l7
  refine for1 (N := phi n) (fun i I' J' => I' = I ∧ (∀ b, b ≠ m + 2 → J' b = J b) ∧ ∀ k, k < 12 → J' (m + 2) k = muO n (rv J m a) (rv J m b) i k) ?_ ?_ (k := 0) (by omega) (by unfold fuel; omega) ⟨rfl, hf0, hv0⟩
  · rintro i I' J' R hi ⟨rfl, hfr, hv⟩ hr
    unfold f_X13_multiply_b7
    refine b_getIv f0 c4 (wp_ifn (ge_f (by omega)) ?_)
    unfold f_X13_multiply_l19
    refine for1 (N := phi n) (fun j I'' J'' => I'' = I' ∧ (∀ b, b ≠ m + 2 → J'' b = J b) ∧ ∀ k, k < 12 → J'' (m + 2) k = muI n (rv J m a i) (rv J m b) i (muO n (rv J m a) (rv J m b) i) j k) ?_ ?_ (k := 0) (by omega) (by unfold fuel; omega) ⟨rfl, hfr, hv⟩
    · rintro j I'' J'' R2 hj ⟨rfl, hfr2, hv2⟩ hr2
      unfold f_X13_multiply_b19
      have hmm := Nat.mod_lt (i + j) (show n > 0 by omega)
      refine b_getIv f0 c4 (wp_ifn (ge_f (by omega)) (b_getA m0 a6 (b_getIv f0 c2 (wp_rq (by rw [zn0 (by omega)]; omega) ?_))))
      rw [zn_add, irem_zn (by omega) (by omega), r12, r12]
      refine b_ldJ k2 (by omega) (by omega) (b_getA m0 a5 (b_ldJ k1 (by omega) (by omega) (b_getA m0 a5 (b_ldJ k1 (by omega) (by omega) (b_stJ k2 (by omega) (by omega) (by omega) (hr2 _ _ ⟨rfl, fun b hb => ?_, ?_⟩))))))
      · rw [st2_nb hb]; exact hfr2 b hb
      · refine ag_st2 hv2 ?_
        rw [hv2 _ (by omega), hfr2 (m + 1) (by omega)]; rfl
    · rintro I'' J'' R2 ⟨rfl, hfr2, hv2⟩
      unfold f_X13_multiply_b19
      exact b_getIv f0 c4 (wp_ifp (ge_t (by omega)) (hr _ _ ⟨rfl, hfr2, hv2⟩))
  · rintro I' J' R ⟨rfl, hfr, hv⟩
    unfold f_X13_multiply_b7
    refine b_getIv f0 c4 (wp_ifp (ge_t (by omega)) (b_ck m0 (wp_bd (t_settles hM hF (hC.mv (hfr _ hfm)) hfm hfm1 hn hto hv (muO_low (by omega) _) (fun J'' hf2 hv2 => wp_rt (q J'' ⟨fun b h1 h2 => ?_, fun j hj => ?_⟩ hv2))))))
    · rw [hf2.1 b h1 h2, hfr b h2]
    · rw [hf2.2 j hj, hfr (m + 1) (by omega)]
theorem t_turnedR {Q : Unit → Hp → Prop} {m f p n a t to : Nat} (hM : MS K A m) (hF : RFS K A f) (hC : RFC I J f p n) (hfm : f + 2 ≠ m + 2) (hfm1 : f + 2 ≠ m + 1) (hn : 2 ≤ n ∧ n ≤ 12) (ha : a < 48) (ht : t < 1000) (hto : to < 48)
    (q : ∀ J', rfr m to J J' → (∀ k, k < 12 → rv J' m to k = tun n t (rv J m a) k) → Q () (K, I, J', A)) : wp (f_X13_turned (some m) (some f) (zn a) (zn t) (zn to)) Q (K, I, J, A) := by
  have hM' := hM
  have hF' := hF
  have hC' := hC
  obtain ⟨m0, ⟨a5, a6, a7, a21, a22, a23, a24, a25, a26, a27⟩, ⟨k1, k2, k3, k4, k5, k6, k7, k8, k9, k10⟩, hm⟩ := hM'
  obtain ⟨f0, ⟨fa4, fa5⟩, ⟨fk1, fk2⟩, hf⟩ := hF'
  obtain ⟨⟨c1, c2, c3, c4⟩, c5, c6⟩ := hC'
  obtain ⟨p1, p2, p3⟩ := phi_rng hn.1 hn.2
  unfold f_X13_turned
  refine b_ck m0 (wp_bd (t_clearWide hM (fun J0 hf0 hv0 => ?_)))
  unfold f_X13_turned_l7
  refine for1 (N := phi n) (fun i I' J' => I' = I ∧ (∀ b, b ≠ m + 2 → J' b = J b) ∧ ∀ k, k < 12 → J' (m + 2) k = tuO n t (rv J m a) i k) ?_ ?_ (k := 0) (by omega) (by unfold fuel; omega) ⟨rfl, hf0, hv0⟩
  · rintro i I' J' R hi ⟨rfl, hfr, hv⟩ hr
    unfold f_X13_turned_b7
    have hmm := Nat.mod_lt (i * t) (show n > 0 by omega)
    have hit : i * t ≤ 10 * 1000 := Nat.mul_le_mul (by omega) (by omega)
    refine b_getIv f0 c4 (wp_ifn (ge_f (by omega)) (b_getA m0 a6 (b_getIv f0 c2 (wp_rq (by rw [zn0 (by omega)]; omega) ?_))))
    rw [zn_mul, irem_zn (by omega) (by omega), r12]
    refine b_ldJ k2 (by omega) (by omega) (b_getA m0 a5 (b_ldJ k1 (by omega) (by omega) (b_stJ k2 (by omega) (by omega) (by omega) (hr _ _ ⟨rfl, fun b hb => ?_, ?_⟩))))
    · rw [st2_nb hb]; exact hfr b hb
    · refine ag_st2 hv ?_
      rw [hv _ (by omega), hfr (m + 1) (by omega)]; rfl
  · rintro I' J' R ⟨rfl, hfr, hv⟩
    unfold f_X13_turned_b7
    refine b_getIv f0 c4 (wp_ifp (ge_t (by omega)) (b_ck m0 (wp_bd (t_settles hM hF (hC.mv (hfr _ hfm)) hfm hfm1 hn hto hv (tuO_low (by omega) _) (fun J'' hf2 hv2 => wp_rt (q J'' ⟨fun b h1 h2 => ?_, fun j hj => ?_⟩ hv2))))))
    · rw [hf2.1 b h1 h2, hfr b h2]
    · rw [hf2.2 j hj, hfr (m + 1) (by omega)]
theorem t_wholeRow {Q : Unit → Hp → Prop} {m to : Nat} {v : Int64} (hM : MS K A m) (hto : to < 48) (q : ∀ J', rfr m to J J' → (∀ k, k < 12 → rv J' m to k = if k = 0 then v else 0) → Q () (K, I, J', A)) : wp (f_X13_wholeRow (some m) (zn to) v) Q (K, I, J, A) := by
  obtain ⟨m0, ⟨a5, a6, a7, a21, a22, a23, a24, a25, a26, a27⟩, ⟨k1, k2, k3, k4, k5, k6, k7, k8, k9, k10⟩, hm⟩ := hM
  unfold f_X13_wholeRow f_X13_wholeRow_l3
  refine for1 (N := 12) (fun k I'' J'' => I'' = I ∧ rfr m to J J'' ∧ ∀ i, i < k → rv J'' m to i = if i = 0 then v else 0) ?_ ?_ (k := 0) (by omega) (by unfold fuel; omega) ⟨rfl, ⟨fun b _ _ => rfl, fun j _ => rfl⟩, fun i _ => by omega⟩
  · rintro k I'' J'' R2 hk ⟨rfl, hfr2, hv2⟩ hR
    unfold f_X13_wholeRow_b3
    refine wp_ifn (ge_f (b := 12) (by omega)) (b_getA m0 a5 ?_)
    have fin : ∀ x : Int64, x = (if k = 0 then v else 0) → wp (mBd (mStJ (some (m + 1)) (zn to * (12 : Int32) + zn k) x) (fun _ => R2 (zn k + 1))) Q (K, I'', J'', A) := by
      intro x hv'
      rw [r12]
      refine b_stJ k1 (by omega) (by omega) (by omega) (hR _ _ ⟨rfl, ⟨fun b h1 h2 => ?_, fun j hj => ?_⟩, fun i hi => ?_⟩)
      · rw [st2_nb h1]; exact hfr2.1 b h1 h2
      · rw [st2_nk (by omega)]; exact hfr2.2 j hj
      · unfold rv
        by_cases hik : i = k
        · subst hik; rw [st2_at, hv']
        · rw [st2_nk (by omega)]; exact hv2 i (by omega)
    refine wp_ifq (not_congr (zn0 (by omega))) ?_
    by_cases h0 : k = 0
    · exact wp_ifn (fun q => q h0) (fin _ (by rw [if_pos h0]))
    · exact wp_ifp h0 (fin _ (by rw [if_neg h0]))
  · rintro I'' J'' R2 ⟨rfl, hfr2, hv2⟩
    unfold f_X13_wholeRow_b3
    exact wp_ifp (ge_t (b := 12) (by omega)) (wp_rt (q J'' hfr2 hv2))
theorem t_added {Q : Unit → Hp → Prop} {m to a : Nat} {v : Int64} (hM : MS K A m) (hto : to < 48) (ha : a < 48) (hat : a ≠ to) (q : ∀ J', rfr m to J J' → (∀ k, k < 12 → rv J' m to k = rv J m to k + v * rv J m a k) → Q () (K, I, J', A)) : wp (f_X13_added (some m) (zn to) (zn a) v) Q (K, I, J, A) := by
  obtain ⟨m0, ⟨a5, a6, a7, a21, a22, a23, a24, a25, a26, a27⟩, ⟨k1, k2, k3, k4, k5, k6, k7, k8, k9, k10⟩, hm⟩ := hM
  unfold f_X13_added f_X13_added_l3
  refine for1 (N := 12) (fun k I'' J'' => I'' = I ∧ rfr m to J J'' ∧ ∀ i, i < 12 → rv J'' m to i = if i < k then rv J m to i + v * rv J m a i else rv J m to i) ?_ ?_ (k := 0) (by omega) (by unfold fuel; omega) ⟨rfl, ⟨fun b _ _ => rfl, fun j _ => rfl⟩, fun i _ => by rw [if_neg (by omega)]⟩
  · rintro k I'' J'' R2 hk ⟨rfl, hfr2, hv2⟩ hR
    unfold f_X13_added_b3
    rw [r12, r12]
    refine wp_ifn (ge_f (b := 12) (by omega)) (b_getA m0 a5 (b_ldJ k1 (by omega) (by omega) (b_getA m0 a5 (b_ldJ k1 (by omega) (by omega) ?_))))
    refine b_stJ k1 (by omega) (by omega) (by omega) (hR _ _ ⟨rfl, ⟨fun b h1 h2 => ?_, fun j hj => ?_⟩, fun i hi => ?_⟩)
    · rw [st2_nb h1]; exact hfr2.1 b h1 h2
    · rw [st2_nk (by omega)]; exact hfr2.2 j hj
    · show st2 J'' (m + 1) (to * 12 + k) _ (m + 1) (to * 12 + i) = _
      by_cases hik : i = k
      · subst hik
        rw [st2_at, if_pos (by omega)]
        have e1 := hv2 i hi
        rw [if_neg (by omega)] at e1
        have e2 := hfr2.row hat i hi
        unfold rv at e1 e2 ⊢
        rw [e1, e2]
      · rw [st2_nk (by omega)]
        have e1 := hv2 i hi
        unfold rv at e1 ⊢
        rw [e1]
        by_cases h : i < k
        · rw [if_pos h, if_pos (by omega)]
        · rw [if_neg h, if_neg (by omega)]
  · rintro I'' J'' R2 ⟨rfl, hfr2, hv2⟩
    unfold f_X13_added_b3
    exact wp_ifp (ge_t (b := 12) (by omega)) (wp_rt (q J'' hfr2 (fun k hk => by rw [hv2 k hk, if_pos hk])))
theorem t_isHugeR {m a : Nat} (hM : MS K A m) (ha : a < 48) : f_X13_isHuge (some m) (zn a) (K, I, J, A) = some (zn (if hug 12 (rv J m a) then 1 else 0), (K, I, J, A)) := by
  apply wp_get
  obtain ⟨m0, ⟨a5, a6, a7, a21, a22, a23, a24, a25, a26, a27⟩, ⟨k1, k2, k3, k4, k5, k6, k7, k8, k9, k10⟩, hm⟩ := hM
  unfold f_X13_isHuge f_X13_isHuge_l2
  refine pf1 (N := 12) (fun k => ∀ i, i < k → far (rv J m a i) = false) ?_ ?_ (k := 0) (by omega) (by unfold fuel; omega) (fun i _ => by omega)
  · rintro k R hk' hv hR
    unfold f_X13_isHuge_b2
    rw [r12]
    refine wp_ifn (ge_f (b := 12) (by omega)) (b_getA m0 a5 (b_ldJ k1 (by omega) (by omega) ?_))
    by_cases h1 : J (m + 1) (a * 12 + k) > 100000000
    · exact wp_ifp h1 (wp_rt ⟨by rw [hug_t hk' (by unfold far rv; simp [h1]) hv]; rfl, rfl⟩)
    · refine wp_ifn h1 (b_getA m0 a5 (b_ldJ k1 (by omega) (by omega) ?_))
      by_cases h2 : J (m + 1) (a * 12 + k) < -100000000
      · exact wp_ifn (fun q => i64_ge.mp q h2) (wp_rt ⟨by rw [hug_t hk' (by unfold far rv; simp [h2]) hv]; rfl, rfl⟩)
      · refine wp_ifp (i64_ge.mpr h2) (hR (fun i hi => ?_))
        by_cases hik : i = k
        · subst hik; unfold far rv; simp only [h1, h2, decide_false, Bool.or_self]
        · exact hv i (by omega)
  · intro R hv
    unfold f_X13_isHuge_b2
    exact wp_ifp (ge_t (b := 12) (by omega)) (wp_rt ⟨by rw [hug_f hv]; rfl, rfl⟩)
theorem t_isWholeR {m a : Nat} (hM : MS K A m) (ha : a < 48) : f_X13_isWhole (some m) (zn a) (K, I, J, A) = some (zn (if who 12 (rv J m a) then 1 else 0), (K, I, J, A)) := by
  apply wp_get
  obtain ⟨m0, ⟨a5, a6, a7, a21, a22, a23, a24, a25, a26, a27⟩, ⟨k1, k2, k3, k4, k5, k6, k7, k8, k9, k10⟩, hm⟩ := hM
  unfold f_X13_isWhole f_X13_isWhole_l2
  refine pf1 (N := 12) (fun k => 1 ≤ k ∧ ∀ i, 1 ≤ i → i < k → rv J m a i = 0) ?_ ?_ (k := 1) (by omega) (by unfold fuel; omega) ⟨by omega, fun i _ _ => by omega⟩
  · rintro k R hk' ⟨h1, hv⟩ hR
    unfold f_X13_isWhole_b2
    rw [r12]
    refine wp_ifn (ge_f (b := 12) (by omega)) (b_getA m0 a5 (b_ldJ k1 (by omega) (by omega) ?_))
    by_cases h : J (m + 1) (a * 12 + k) = 0
    · refine wp_ifp h (hR ⟨by omega, fun i hi1 hi => ?_⟩)
      by_cases hik : i = k
      · subst hik; exact h
      · exact hv i hi1 (by omega)
    · exact wp_ifn h (wp_rt ⟨by rw [who_f h1 hk' h hv]; rfl, rfl⟩)
  · rintro R ⟨_, hv⟩
    unfold f_X13_isWhole_b2
    exact wp_ifp (ge_t (b := 12) (by omega)) (wp_rt ⟨by rw [who_t hv]; rfl, rfl⟩)
theorem t_areAlike {m a b : Nat} (hM : MS K A m) (ha : a < 48) (hb : b < 48) : f_X13_areAlike (some m) (zn a) (zn b) (K, I, J, A) = some (zn (if sam 12 (rv J m a) (rv J m b) then 1 else 0), (K, I, J, A)) := by
  apply wp_get
  obtain ⟨m0, ⟨a5, a6, a7, a21, a22, a23, a24, a25, a26, a27⟩, ⟨k1, k2, k3, k4, k5, k6, k7, k8, k9, k10⟩, hm⟩ := hM
  unfold f_X13_areAlike f_X13_areAlike_l2
  refine pf1 (N := 12) (fun k => ∀ i, i < k → rv J m a i = rv J m b i) ?_ ?_ (k := 0) (by omega) (by unfold fuel; omega) (fun i _ => by omega)
  · rintro k R hk' hv hR
    unfold f_X13_areAlike_b2
    rw [r12, r12]
    refine wp_ifn (ge_f (b := 12) (by omega)) (b_getA m0 a5 (b_ldJ k1 (by omega) (by omega) (b_getA m0 a5 (b_ldJ k1 (by omega) (by omega) ?_))))
    by_cases h : J (m + 1) (a * 12 + k) = J (m + 1) (b * 12 + k)
    · refine wp_ifp h (hR (fun i hi => ?_))
      by_cases hik : i = k
      · subst hik; exact h
      · exact hv i (by omega)
    · exact wp_ifn h (wp_rt ⟨by rw [sam_f hk' h hv]; rfl, rfl⟩)
  · intro R hv
    unfold f_X13_areAlike_b2
    exact wp_ifp (ge_t (b := 12) (by omega)) (wp_rt ⟨by rw [sam_t hv]; rfl, rfl⟩)
theorem t_atR {f p n c x : Nat} (hF : RFS K A f) (hC : RFC I J f p n) (hpn : pn p n) (hc : c < 1000) (hx : x < 1000) : f_X13_at (some f) (zn c) (zn x) (K, I, J, A) = some (chiV (chi p n c (x % p)), (K, I, J, A)) := by
  apply wp_get
  obtain ⟨f0, ⟨fa4, fa5⟩, ⟨fk1, fk2⟩, hf⟩ := hF
  obtain ⟨⟨c1, c2, c3, c4⟩, c5, c6⟩ := hC
  have hr := pn_rng hpn
  have hlt := Nat.mod_lt x (show p > 0 by omega)
  unfold f_X13_at
  refine b_getIv f0 c1 (wp_rq (by rw [zn0 (by omega)]; omega) (b_nm ?_))
  rw [irem_zn (by omega) (by omega)]
  generalize x % p = v at hlt
  refine wp_ifq (not_congr (zn0 (by omega))) ?_
  unfold chi
  by_cases h : v = 0
  · refine wp_ifn (fun q => q h) ?_
    rw [if_pos h]
    refine wp_ifq (not_congr (zn0 (by omega))) ?_
    by_cases h2 : c = 0
    · rw [if_pos h2]; exact wp_ifn (fun q => q h2) (wp_rt ⟨rfl, rfl⟩)
    · rw [if_neg h2]; exact wp_ifp h2 (wp_rt ⟨rfl, rfl⟩)
  · rw [if_neg h]
    have hl := lg_lt hpn.1 (show 1 ≤ v by omega) hlt
    have hm : c * lg p v ≤ 1000 * 198 := Nat.mul_le_mul (by omega) (by omega)
    refine wp_ifp h (b_getA f0 fa4 (b_ldI fk1 (by omega) (by omega) ?_))
    rw [c5 v (by omega) hlt]
    refine b_getIv f0 c2 (wp_rq (by rw [zn0 (by omega)]; omega) ?_)
    rw [zn_mul, irem_zn (by omega) (by omega)]
    exact wp_rt ⟨rfl, rfl⟩
theorem t_jacobiRow {Q : Unit → Hp → Prop} {m f p n c d to : Nat} (hM : MS K A m) (hF : RFS K A f) (hC : RFC I J f p n) (hfm : f + 2 ≠ m + 2) (hfm1 : f + 2 ≠ m + 1) (hpn : pn p n) (hc : c < 1000) (hd : d < 1000) (hto : to < 48)
    (q : ∀ J', rfr m to J J' → (∀ k, k < 12 → rv J' m to k = jac p n c d k) → Q () (K, I, J', A)) : wp (f_X13_jacobiRow (some m) (some f) (zn c) (zn d) (zn to)) Q (K, I, J, A) := by
  have hM' := hM
  have hF' := hF
  have hC' := hC
  have hr := pn_rng hpn
  obtain ⟨m0, ⟨a5, a6, a7, a21, a22, a23, a24, a25, a26, a27⟩, ⟨k1, k2, k3, k4, k5, k6, k7, k8, k9, k10⟩, hm⟩ := hM'
  obtain ⟨f0, ⟨fa4, fa5⟩, ⟨fk1, fk2⟩, hf⟩ := hF'
  obtain ⟨⟨c1, c2, c3, c4⟩, c5, c6⟩ := hC'
  unfold f_X13_jacobiRow
  refine b_ck m0 (wp_bd (t_clearWide hM (fun J0 hf0 hv0 => ?_)))
  unfold f_X13_jacobiRow_l7
  refine for1 (N := p) (fun x I' J' => I' = I ∧ (∀ b, b ≠ m + 2 → J' b = J b) ∧ ∀ k, k < 12 → J' (m + 2) k = jaO p n c d x k) ?_ ?_ (k := 0) (by omega) (by unfold fuel; omega) ⟨rfl, hf0, hv0⟩
  · rintro x I' J' R hx ⟨rfl, hfr, hv⟩ hr'
    have hC2 := hC.mv (hfr _ hfm)
    unfold f_X13_jacobiRow_b7
    refine b_getIv f0 c1 (wp_ifn (ge_f (by omega)) (b_eq (t_atR hF hC2 hpn hc (by omega)) (b_getIv f0 c1 ?_)))
    rw [Nat.mod_eq_of_lt hx, show zn p + (1 : Int32) - zn x = zn (p + 1 - x) from by rw [zn_succ, zn_sub (by omega)]]
    refine b_eq (t_atR hF hC2 hpn hd (by omega)) ?_
    have hstep : ∀ k, jaO p n c d (x + 1) k = jaS p n c d x (jaO p n c d x) k := fun k => rfl
    cases hu : chi p n c x with
    | none =>
      refine wp_ifp chiV_none (hr' _ _ ⟨rfl, hfr, fun k hk => ?_⟩)
      rw [hstep]; unfold jaS; rw [hu]; exact hv k hk
    | some u =>
      have hul := chi_lt (show 0 < n by omega) hu
      refine wp_ifn (chiV_some (by omega)) ?_
      cases hw : chi p n d ((p + 1 - x) % p) with
      | none =>
        refine wp_ifp chiV_none (hr' _ _ ⟨rfl, hfr, fun k hk => ?_⟩)
        rw [hstep]; unfold jaS; rw [hu, hw]; exact hv k hk
      | some v =>
        have hvl := chi_lt (show 0 < n by omega) hw
        have hmm := Nat.mod_lt (u + v) (show n > 0 by omega)
        refine wp_ifn (chiV_some (by omega)) (b_getA m0 a6 (b_getIv f0 c2 (wp_rq (by rw [zn0 (by omega)]; omega) ?_)))
        show wp (mBd (mLdJ (some (m + 2)) (irem (zn u + zn v) (zn n))) (fun r7 => mBd (mStJ (some (m + 2)) (irem (zn u + zn v) (zn n)) _) _)) _ _
        rw [zn_add, irem_zn (by omega) (by omega)]
        refine b_ldJ k2 (by omega) (by omega) (b_stJ k2 (by omega) (by omega) (by omega) (hr' _ _ ⟨rfl, fun b hb => ?_, ?_⟩))
        · rw [st2_nb hb]; exact hfr b hb
        · intro k hk
          rw [hstep]; unfold jaS; rw [hu, hw]
          exact ag_st2 hv (by rw [hv _ (by omega)]) k hk
  · rintro I' J' R ⟨rfl, hfr, hv⟩
    unfold f_X13_jacobiRow_b7
    refine b_getIv f0 c1 (wp_ifp (ge_t (by omega)) (b_ck m0 (wp_bd (t_settles hM hF (hC.mv (hfr _ hfm)) hfm hfm1 (by omega) hto hv (jaO_low (by omega) _) (fun J'' hf2 hv2 => wp_rt (q J'' ⟨fun b h1 h2 => ?_, fun j hj => ?_⟩ hv2))))))
    · rw [hf2.1 b h1 h2, hfr b h2]
    · rw [hf2.2 j hj, hfr (m + 1) (by omega)]
theorem t_partOfR {m f p n t a : Nat} (hM : MS K A m) (hF : RFS K A f) (hC : RFC I J f p n) (hpn : pn p n) (ht : t < n) (ha : a < 48) (hB : bnd 10 1000000000 (rv J m a)) : f_X13_partOf (some m) (some f) (zn a) (zn t) (K, I, J, A) = some (zn (prt p n t (rv J m a)), (K, I, J, A)) := by
  apply wp_get
  have hr := pn_rng hpn
  obtain ⟨m0, ⟨a5, a6, a7, a21, a22, a23, a24, a25, a26, a27⟩, ⟨k1, k2, k3, k4, k5, k6, k7, k8, k9, k10⟩, hm⟩ := hM
  obtain ⟨f0, ⟨fa4, fa5⟩, ⟨fk1, fk2⟩, hf⟩ := hF
  obtain ⟨⟨c1, c2, c3, c4⟩, c5, c6⟩ := hC
  obtain ⟨p1, p2, p3⟩ := phi_rng hr.2.2.1 hr.2.2.2
  have hdv : n ∣ p - 1 := Nat.dvd_of_mod_eq_zero hpn.2.2.2
  have htp : t * (p - 1) ≤ 12 * 199 := Nat.mul_le_mul (by omega) (by omega)
  have hdl := Nat.div_le_self (t * (p - 1)) n
  have hrt := rt_rng hpn.1
  unfold f_X13_partOf
  refine b_getIv f0 c3 (b_getIv f0 c1 (b_getIv f0 c2 (wp_rq (by rw [zn0 (by omega)]; omega) (b_getIv f0 c1 ?_))))
  rw [zn_pred1 (by omega), zn_mul, zdiv_zn (by omega) (by omega)]
  refine b_eq (t_raised (by omega) (by omega) (by omega)) ?_
  rw [Nat.mul_div_assoc _ hdv]
  have hz := Nat.mod_lt (rt p ^ (t * ((p - 1) / n))) (show p > 0 by omega)
  rw [show rt p ^ (t * ((p - 1) / n)) % p = zOf p n t from rfl] at hz ⊢
  generalize hzz : zOf p n t = z at hz
  have hp64 : (zn p).toInt64 = zj p := zn_64 (by omega)
  have hp0 : ¬ zj (p : Int) = 0 := by
    intro e
    have := congrArg Int64.toInt e
    rw [zj_toInt (by omega) (by omega), show (0 : Int64).toInt = 0 from rfl] at this
    omega
  unfold f_X13_partOf_l35
  refine pw3 (fun mm u y w => ∃ (s : Nat) (S : Int), u = zj S ∧ y = zj ((z ^ s % p : Nat) : Int) ∧ w = zn s ∧ mm = phi n - s ∧ s ≤ phi n ∧ -(p : Int) < S ∧ S < p ∧ S % p = pvS p z (rv J m a) s % p) ?_ fuel (phi n) _ _ _ (by unfold fuel; omega) ⟨0, 0, rfl, by rw [Nat.pow_zero, Nat.mod_eq_of_lt (by omega)]; rfl, rfl, by omega, by omega, by omega, by omega, rfl⟩
  rintro mm u y w R ⟨s, S, rfl, rfl, rfl, rfl, hs, hS1, hS2, hSv⟩ hR
  unfold f_X13_partOf_b35
  refine b_getIv f0 c4 ?_
  by_cases he : s = phi n
  · refine wp_ifp (ge_t (by omega)) (b_getIv f0 c1 (b_getIv f0 c1 ?_))
    rw [hp64]
    refine wp_rq hp0 (wp_rt ⟨?_, rfl⟩)
    rw [zj_add, lrem_zj (by omega) (by omega) (by omega) (by omega), zj_32, Int.tmod_eq_emod_of_nonneg (by omega), Int.add_emod_right, hSv, he]
    unfold prt
    rw [hzz, zn_zi]
    congr 1
    have := Int.emod_nonneg (pvS p z (rv J m a) (phi n)) (show (p : Int) ≠ 0 by omega)
    omega
  · refine wp_ifn (ge_f (by omega)) (b_getA m0 a5 ?_)
    rw [r12]
    refine b_ldJ k1 (by omega) (by omega) (b_getIv f0 c1 ?_)
    rw [hp64]
    refine wp_rq hp0 (b_getIv f0 c1 ?_)
    rw [hp64]
    refine wp_rq hp0 (b_nm (b_getIv f0 c1 ?_))
    rw [hp64]
    refine wp_rq hp0 (b_nm ?_)
    have hb := hB s (by omega)
    have hc := zj_self (J (m + 1) (a * 12 + s))
    have hce : (J (m + 1) (a * 12 + s)).toInt = (rv J m a s).toInt := rfl
    rw [← hc, hce]
    generalize hcs : (rv J m a s).toInt = cs at hb
    have hup := Nat.mod_lt (z ^ s) (show p > 0 by omega)
    generalize hU : z ^ s % p = U at hup
    have ht1 := tmod_rng cs (show 1 ≤ p by omega)
    have hm1 : cs.tmod p * U ≤ 199 * 199 := by
      by_cases h0 : 0 ≤ cs.tmod p
      · exact Int.mul_le_mul (by omega) (by omega) (by omega) (by omega)
      · have := Int.mul_nonneg (show (0 : Int) ≤ -(cs.tmod p) by omega) (show (0 : Int) ≤ U by omega)
        rw [Int.neg_mul] at this
        omega
    have hm2 : -(199 * 199) ≤ cs.tmod p * U := by
      by_cases h0 : 0 ≤ cs.tmod p
      · have := Int.mul_nonneg h0 (show (0 : Int) ≤ U by omega)
        omega
      · have := Int.mul_le_mul (show -(cs.tmod p) ≤ 199 by omega) (show (U : Int) ≤ 199 by omega) (by omega) (by omega)
        rw [Int.neg_mul] at this
        omega
    have hzU : (U : Int) * z ≤ 199 * 199 := Int.mul_le_mul (by omega) (by omega) (by omega) (by omega)
    have hzU0 : (0 : Int) ≤ U * z := Int.mul_nonneg (by omega) (by omega)
    rw [lrem_zj (by omega) (by omega) (by omega) (by omega), zj_mul, zj_add, lrem_zj (by omega) (by omega) (by omega) (by omega), zn_64 (show z < 2147483648 by omega), zj_mul, lrem_zj (by omega) (by omega) (by omega) (by omega)]
    have ht2 := tmod_rng (S + cs.tmod p * U) (show 1 ≤ p by omega)
    refine hR (phi n - (s + 1)) _ _ _ (by omega) ⟨s + 1, _, rfl, ?_, zn_succ s, rfl, by omega, ht2.1, ht2.2, ?_⟩
    · congr 1
      rw [Int.tmod_eq_emod_of_nonneg hzU0, ← pow_step, hU]
      push_cast
      rfl
    · have em : ∀ x : Int, x.tmod p % p = x % p := by
        intro x
        rw [Int.tmod_def, Int.sub_eq_add_neg, ← Int.mul_neg, Int.add_mul_emod_self_left]
      show _ = (pvS p z (rv J m a) s + _ * _) % _
      rw [em, Int.add_emod, hSv, Int.mul_emod, em]
      have hUe : (U : Int) % p = (z : Int) ^ s % p := by
        rw [← hU]
        push_cast
        rw [Int.emod_emod]
      rw [hUe, ← Int.mul_emod, ← Int.add_emod, hcs]
end
