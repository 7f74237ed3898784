/-! ===== registers of the reference; its lets, its refusals ===== -/
section
variable {β : Type} {K : List (Nat × Nat)} {I : Nat → Nat → Int32} {J : Nat → Nat → Int64} {A : Nat → Nat → Option Nat}
def RGR (I : Nat → Nat → Int32) (J : Nat → Nat → Int64) (m : Nat) (S : RSt) (u : Nat) (U : Nat → RSt) (r : Nat) (R : Nat → RSt) (k : Nat) (M : Nat → RSt) : Prop :=
  (I m 28 = zn u ∧ I m 29 = zn r ∧ I m 30 = zn k) ∧ (u + r ≤ 20 ∧ k ≤ 4) ∧ rst (J (m + 7)) 0 S ∧ (∀ j, j < u → rst (J (m + 8)) j (U j)) ∧ (∀ j, j < r → rst (J (m + 9)) j (R j)) ∧ ∀ j, j < k → rst (J (m + 10)) j (M j)
theorem rst.keep {f f' : Nat → Int64} {p q : Nat} {S : RSt} (h : rst f p S) (hpq : p ≠ q) (hf : ∀ j, (j < q * 49 ∨ q * 49 + 49 ≤ j) → f' j = f j) : rst f' p S := by
  refine ⟨?_, fun r hr i hi => ?_⟩
  · rw [hf _ (by omega)]; exact h.1
  · rw [hf _ (by omega)]; exact h.2 r hr i hi
theorem rst.copy {f f' : Nat → Int64} {s t : Nat} {S : RSt} (h : rst f s S) (hf : ∀ i, i < 49 → f' (t * 49 + i) = f (s * 49 + i)) : rst f' t S := by
  refine ⟨?_, fun r hr i hi => ?_⟩
  · have := hf 0 (by omega)
    rw [Nat.add_zero, Nat.add_zero] at this
    rw [this]; exact h.1
  · rw [show t * 49 + 1 + r * 12 + i = t * 49 + (1 + r * 12 + i) by omega, hf _ (by omega), show s * 49 + (1 + r * 12 + i) = s * 49 + 1 + r * 12 + i by omega]
    exact h.2 r hr i hi
theorem c49 (c k : Nat) : (49 : Int32) * zn c + zn k = zn (c * 49 + k) := by rw [show (49 : Int32) = zn 49 from rfl, zn_mul, zn_add, Nat.mul_comm]
theorem t_keeps {Q : Unit → Hp → Prop} {m y t N : Nat} (hM : MS K A m) (hy : kk K y = (2, N)) (hy64 : 64 ≤ y) (hN : t * 49 + 49 ≤ N) (hN2 : N ≤ 10000) (hym : y ≠ m + 7)
    (q : ∀ J', (∀ b, b ≠ y → J' b = J b) → (∀ i, i < 49 → J' y (t * 49 + i) = J (m + 7) (0 * 49 + i)) → (∀ j, (j < t * 49 ∨ t * 49 + 49 ≤ j) → J' y j = J y j) → Q () (K, I, J', A)) : wp (f_X13_keeps (some m) (some y) (zn t)) Q (K, I, J, A) := by
  obtain ⟨m0, ⟨a5, a6, a7, a21, a22, a23, a24, a25, a26, a27⟩, ⟨k1, k2, k3, k4, k5, k6, k7, k8, k9, k10⟩, hm⟩ := hM
  unfold f_X13_keeps f_X13_keeps_l2
  refine for1 (N := 49) (fun k I' J' => I' = I ∧ (∀ b, b ≠ y → J' b = J b) ∧ (∀ i, i < k → J' y (t * 49 + i) = J (m + 7) (0 * 49 + i)) ∧ ∀ j, (j < t * 49 ∨ t * 49 + 49 ≤ j) → J' y j = J y j) ?_ ?_ (k := 0) (by omega) (by unfold fuel; omega) ⟨rfl, fun b _ => rfl, fun i _ => by omega, fun j _ => rfl⟩
  · rintro k I' J' R hk ⟨rfl, hf, hv, ho⟩ hR
    unfold f_X13_keeps_b2
    rw [c49]
    refine wp_ifn (ge_f (b := 49) (by omega)) (b_getA m0 a24 (b_ldJ k7 (by omega) (by omega) (b_stJ hy hy64 (by omega) (by omega) (hR _ _ ⟨rfl, fun b hb => ?_, fun i hi => ?_, fun j hj => ?_⟩))))
    · rw [st2_nb hb]; exact hf b hb
    · by_cases h : i = k
      · subst h
        rw [st2_at, hf (m + 7) (fun e => hym e.symm), Nat.zero_mul, Nat.zero_add]
      · rw [st2_nk (by omega)]; exact hv i (by omega)
    · rw [st2_nk (by omega)]; exact ho j (by omega)
  · rintro I' J' R ⟨rfl, hf, hv, ho⟩
    unfold f_X13_keeps_b2
    exact wp_ifp (ge_t (b := 49) (by omega)) (wp_rt (q J' hf hv ho))
theorem t_takes {Q : Unit → Hp → Prop} {m y t N : Nat} (hM : MS K A m) (hy : kk K y = (2, N)) (hN : t * 49 + 49 ≤ N) (hN2 : N ≤ 10000) (hym : y ≠ m + 7)
    (q : ∀ J', (∀ b, b ≠ m + 7 → J' b = J b) → (∀ i, i < 49 → J' (m + 7) (0 * 49 + i) = J y (t * 49 + i)) → Q () (K, I, J', A)) : wp (f_X13_takes (some m) (some y) (zn t)) Q (K, I, J, A) := by
  obtain ⟨m0, ⟨a5, a6, a7, a21, a22, a23, a24, a25, a26, a27⟩, ⟨k1, k2, k3, k4, k5, k6, k7, k8, k9, k10⟩, hm⟩ := hM
  unfold f_X13_takes f_X13_takes_l2
  refine for1 (N := 49) (fun k I' J' => I' = I ∧ (∀ b, b ≠ m + 7 → J' b = J b) ∧ (∀ i, i < k → J' (m + 7) (0 * 49 + i) = J y (t * 49 + i))) ?_ ?_ (k := 0) (by omega) (by unfold fuel; omega) ⟨rfl, fun b _ => rfl, fun i _ => by omega⟩
  · rintro k I' J' R hk ⟨rfl, hf, hv⟩ hR
    unfold f_X13_takes_b2
    rw [c49]
    refine wp_ifn (ge_f (b := 49) (by omega)) (b_getA m0 a24 (b_ldJ hy (by omega) (by omega) (b_stJ k7 (by omega) (by omega) (by omega) (hR _ _ ⟨rfl, fun b hb => ?_, fun i hi => ?_⟩))))
    · rw [st2_nb hb]; exact hf b hb
    · by_cases h : i = k
      · subst h
        rw [Nat.zero_mul, Nat.zero_add, st2_at, hf y hym]
      · rw [st2_nk (by omega)]; exact hv i (by omega)
  · rintro I' J' R ⟨rfl, hf, hv⟩
    unfold f_X13_takes_b2
    exact wp_ifp (ge_t (b := 49) (by omega)) (wp_rt (q J' hf hv))
/-- the reference's three ends of a call -/
theorem t_refused {m : Nat} {v : Int32} (hM : kk K m = (0, 11) ∧ 64 ≤ m) : f_X13_refused (some m) v (K, I, J, A) = some (-1, (K, st2 (st2 I m 1 v) m 2 (-1), J, A)) := by
  apply wp_get'
  unfold f_X13_refused
  exact b_putI hM.1 hM.2 (b_putI hM.1 hM.2 (wp_rt ⟨rfl, rfl⟩))
theorem t_refusedBy {m : Nat} {v x : Int32} (hM : kk K m = (0, 11) ∧ 64 ≤ m) : f_X13_refusedBy (some m) v x (K, I, J, A) = some (x, (K, st2 (st2 I m 1 v) m 2 (-1), J, A)) := by
  apply wp_get'
  unfold f_X13_refusedBy
  exact b_ck hM.1 (b_eq (t_refused hM) (wp_rt ⟨rfl, rfl⟩))
theorem t_denied {m : Nat} {v : Int32} (hM : kk K m = (0, 11) ∧ 64 ≤ m) : f_X13_denied (some m) v (K, I, J, A) = some (0, (K, st2 (st2 I m 1 v) m 2 (-1), J, A)) := by
  apply wp_get'
  unfold f_X13_denied
  exact b_ck hM.1 (b_eq (t_refused hM) (wp_rt ⟨rfl, rfl⟩))
theorem t_good {m : Nat} {x : Int32} (hM : kk K m = (0, 11) ∧ 64 ≤ m) : f_X13_good (some m) x (K, I, J, A) = some (x, (K, st2 (st2 I m 1 0) m 2 (-1), J, A)) := by
  apply wp_get'
  unfold f_X13_good
  exact b_putI hM.1 hM.2 (b_putI hM.1 hM.2 (wp_rt ⟨rfl, rfl⟩))
theorem t_goodLong {m : Nat} {x : Int64} (hM : kk K m = (0, 11) ∧ 64 ≤ m) : f_X13_goodLong (some m) x (K, I, J, A) = some (x, (K, st2 (st2 I m 1 0) m 2 (-1), J, A)) := by
  apply wp_get'
  unfold f_X13_goodLong
  exact b_ck hM.1 (b_eq (t_good hM) (wp_rt ⟨rfl, rfl⟩))
theorem t_granted {m : Nat} (hM : kk K m = (0, 11) ∧ 64 ≤ m) : f_X13_granted (some m) (K, I, J, A) = some (1, (K, st2 (st2 I m 1 0) m 2 (-1), J, A)) := by
  apply wp_get'
  unfold f_X13_granted
  exact b_ck hM.1 (b_eq (t_good hM) (wp_rt ⟨rfl, rfl⟩))
/-- an act begins: the reference keeps its state; the call is granted -/
theorem t_acts {Q : Int32 → Hp → Prop} {m : Nat} {S : RSt} {u : Nat} {U : Nat → RSt} {r : Nat} {R : Nat → RSt} {k : Nat} {M : Nat → RSt} (hM : MS K A m) (hG : RGR I J m S u U r R k M)
    (q : ∀ I' J', (∀ b, b ≠ m → I' b = I b) → (∀ j, j ≠ 1 → j ≠ 2 → j ≠ 28 → j ≠ 29 → I' m j = I m j) → I' m 1 = 0 → I' m 2 = -1 → (∀ b, b ≠ m + 8 → J' b = J b) → RGR I' J' m S (actN u) (actF u U S) 0 R k M → Q 1 (K, I', J', A)) : wp (f_X13_acts (some m)) Q (K, I, J, A) := by
  have hM' := hM
  obtain ⟨m0, ⟨a5, a6, a7, a21, a22, a23, a24, a25, a26, a27⟩, ⟨k1, k2, k3, k4, k5, k6, k7, k8, k9, k10⟩, hm⟩ := hM'
  obtain ⟨⟨i28, i29, i30⟩, ⟨hur, hk4⟩, hS, hU, hR, hMM⟩ := hG
  -- the tail: the state goes behind the kept ones
  have tail : ∀ (I1 : Nat → Nat → Int32) (J1 : Nat → Nat → Int64) (v : Nat), v < 20 → (∀ b, b ≠ m → I1 b = I b) → (∀ j, j ≠ 28 → I1 m j = I m j) → I1 m 28 = zn v → (∀ b, b ≠ m + 8 → J1 b = J b) → v + 1 = actN u → (∀ j, j < v → rst (J1 (m + 8)) j (actF u U S j)) → actF u U S v = S → wp (f_X13_acts_j49 (some m)) Q (K, I1, J1, A) := by
    intro I1 J1 v hv hf1 hf2 h28 hfJ hvn hkeep hlast
    unfold f_X13_acts_j49
    refine b_getA m0 a25 (b_getIv m0 h28 (b_ck m0 (wp_bd ?_)))
    refine t_keeps hM k8 (by omega) (by omega) (by omega) (by omega) (fun J2 hf3 hv3 ho3 => ?_)
    refine b_getIv m0 h28 ?_
    rw [zn_succ]
    refine b_putI m0 hm (b_putI m0 hm (b_ck m0 (b_eq (t_granted ⟨m0, hm⟩) (wp_rq (by decide) (wp_rt ?_)))))
    refine q _ _ (fun b hb => ?_) (fun j h1 h2 h3 h4 => ?_) ?_ ?_ (fun b hb => ?_) ⟨⟨?_, ?_, ?_⟩, ⟨?_, hk4⟩, ?_, fun j hj => ?_, fun j hj => by omega, fun j hj => ?_⟩
    · rw [st2_nb hb, st2_nb hb, st2_nb hb, st2_nb hb]; exact hf1 b hb
    · rw [st2_nk h2, st2_nk h1, st2_nk h4, st2_nk h3]; exact hf2 j h3
    · rw [st2_nk (by decide)]; exact st2_at
    · exact st2_at
    · rw [hf3 b hb]; exact hfJ b hb
    · rw [st2_nk (by decide), st2_nk (by decide), st2_nk (by decide), st2_at, hvn]
    · rw [st2_nk (by decide), st2_nk (by decide), st2_at]; rfl
    · rw [st2_nk (by decide), st2_nk (by decide), st2_nk (by decide), st2_nk (by decide), hf2 30 (by decide)]; exact i30
    · omega
    · rw [hf3 (m + 7) (by omega), hfJ (m + 7) (by omega)]; exact hS
    · by_cases h : j = v
      · rw [h, hlast]
        refine rst.copy (f := J (m + 7)) (s := 0) hS (fun i hi => ?_)
        rw [hv3 i hi, hfJ (m + 7) (by omega)]
      · exact (hkeep j (by omega)).keep h ho3
    · rw [hf3 (m + 10) (by omega), hfJ (m + 10) (by omega)]; exact hMM j hj
  unfold f_X13_acts
  refine b_getIv m0 i28 (wp_ifq (not_congr (zn_inj (b := 20) (by omega) (by omega))) ?_)
  by_cases h : u = 20
  · refine wp_ifn (fun q => q h) ?_
    unfold f_X13_acts_l11
    refine for1 (N := 931) (fun t I' J' => I' = I ∧ (∀ b, b ≠ m + 8 → J' b = J b) ∧ (∀ j, j < t → J' (m + 8) j = J (m + 8) (j + 49)) ∧ ∀ j, t ≤ j → J' (m + 8) j = J (m + 8) j) ?_ ?_ (k := 0) (by omega) (by unfold fuel; omega) ⟨rfl, fun b _ => rfl, fun j _ => by omega, fun j _ => rfl⟩
    · rintro t I' J' R' ht ⟨rfl, hf, hv, ho⟩ hR'
      unfold f_X13_acts_b11
      rw [show zn t + (49 : Int32) = zn (t + 49) from zn_add t 49]
      refine wp_ifn (ge_f (b := 931) (by omega)) (b_getA m0 a25 (b_getA m0 a25 (b_ldJ k8 (by omega) (by omega) (b_stJ k8 (by omega) (by omega) (by omega) (hR' _ _ ⟨rfl, fun b hb => ?_, fun j hj => ?_, fun j hj => ?_⟩)))))
      · rw [st2_nb hb]; exact hf b hb
      · by_cases h2 : j = t
        · subst h2; rw [st2_at]; exact ho _ (by omega)
        · rw [st2_nk h2]; exact hv j (by omega)
      · rw [st2_nk (by omega)]; exact ho j (by omega)
    · rintro I' J' R' ⟨rfl, hf, hv, ho⟩
      unfold f_X13_acts_b11
      refine wp_ifp (ge_t (b := 931) (by omega)) (b_getIv m0 i28 ?_)
      rw [zn_pred1 (by omega)]
      refine b_putI m0 hm (tail _ _ 19 (by omega) (fun b hb => by rw [st2_nb hb]) (fun j hj => by rw [st2_nk hj]) (by rw [st2_at, h]) hf (by unfold actN; rw [if_pos h]) (fun j hj => ?_) ?_)
      · unfold actF
        rw [if_pos h, if_pos hj]
        refine rst.copy (f := J (m + 8)) (s := j + 1) (hU (j + 1) (by omega)) (fun i hi => ?_)
        rw [hv _ (by omega)]
        congr 1
        omega
      · unfold actF; rw [if_pos h, if_neg (by omega)]
  · refine wp_ifp h (tail I J u (by omega) (fun b _ => rfl) (fun j _ => rfl) i28 (fun b _ => rfl) (by unfold actN; rw [if_neg h]) (fun j hj => ?_) ?_)
    · unfold actF; rw [if_neg h, if_neg (by omega)]; exact hU j hj
    · unfold actF; rw [if_neg h, if_pos rfl]
theorem RGR.mv {I I' : Nat → Nat → Int32} {J J' : Nat → Nat → Int64} {m : Nat} {S : RSt} {u : Nat} {U : Nat → RSt} {r : Nat} {R : Nat → RSt} {k : Nat} {M : Nat → RSt} (h : RGR I J m S u U r R k M) (e0 : ∀ j, 28 ≤ j → I' m j = I m j) (e7 : J' (m + 7) = J (m + 7)) (e8 : J' (m + 8) = J (m + 8)) (e9 : J' (m + 9) = J (m + 9)) (e10 : J' (m + 10) = J (m + 10)) : RGR I' J' m S u U r R k M := by
  obtain ⟨⟨i28, i29, i30⟩, h2, hS, hU, hR, hM⟩ := h
  exact ⟨⟨by rw [e0 28 (by omega)]; exact i28, by rw [e0 29 (by omega)]; exact i29, by rw [e0 30 (by omega)]; exact i30⟩, h2, by rw [e7]; exact hS, fun j hj => by rw [e8]; exact hU j hj, fun j hj => by rw [e9]; exact hR j hj, fun j hj => by rw [e10]; exact hM j hj⟩
theorem idx12 (r i : Nat) : (1 : Int32) + (12 : Int32) * zn r + zn i = zn (0 * 49 + 1 + r * 12 + i) := by
  rw [show (12 : Int32) = zn 12 from rfl, show (1 : Int32) = zn 1 from rfl, zn_mul, zn_add, zn_add]
  congr 1
  omega
theorem t_loads {Q : Unit → Hp → Prop} {m t to : Nat} {S : RSt} {u : Nat} {U : Nat → RSt} {r : Nat} {R : Nat → RSt} {k : Nat} {M : Nat → RSt} (hM : MS K A m) (hG : RGR I J m S u U r R k M) (ht : t < 4) (hto : to < 48)
    (q : ∀ J', rfr m to J J' → (∀ i, i < 12 → rv J' m to i = S.2 t i) → Q () (K, I, J', A)) : wp (f_X13_loads (some m) (zn t) (zn to)) Q (K, I, J, A) := by
  obtain ⟨m0, ⟨a5, a6, a7, a21, a22, a23, a24, a25, a26, a27⟩, ⟨k1, k2, k3, k4, k5, k6, k7, k8, k9, k10⟩, hm⟩ := hM
  obtain ⟨⟨i28, i29, i30⟩, ⟨hur, hk4⟩, hS, hU, hR, hMM⟩ := hG
  unfold f_X13_loads f_X13_loads_l2
  refine for1 (N := 12) (fun k I' J' => I' = I ∧ rfr m to J J' ∧ J' (m + 7) = J (m + 7) ∧ ∀ i, i < k → rv J' m to i = S.2 t i) ?_ ?_ (k := 0) (by omega) (by unfold fuel; omega) ⟨rfl, ⟨fun b _ _ => rfl, fun j _ => rfl⟩, rfl, fun i _ => by omega⟩
  · rintro k I' J' R' hk ⟨rfl, hf, hs, hv⟩ hR'
    unfold f_X13_loads_b2
    rw [idx12, r12]
    refine wp_ifn (ge_f (b := 12) (by omega)) (b_getA m0 a5 (b_getA m0 a24 (b_ldJ k7 (by omega) (by omega) (b_stJ k1 (by omega) (by omega) (by omega) (hR' _ _ ⟨rfl, ⟨fun b h1 h2 => ?_, fun j hj => ?_⟩, ?_, fun i hi => ?_⟩)))))
    · rw [st2_nb h1]; exact hf.1 b h1 h2
    · rw [st2_nk (by omega)]; exact hf.2 j hj
    · rw [st2_nb (by omega)]; exact hs
    · unfold rv
      by_cases hik : i = k
      · subst hik; rw [st2_at, hs]; exact hS.2 t ht i hk
      · rw [st2_nk (by omega)]; exact hv i (by omega)
  · rintro I' J' R' ⟨rfl, hf, hs, hv⟩
    unfold f_X13_loads_b2
    exact wp_ifp (ge_t (b := 12) (by omega)) (wp_rt (q J' hf hv))
/-- a row goes into a register: an act -/
theorem t_stores {Q : Int32 → Hp → Prop} {m t fr : Nat} {w : Nat → Int64} {S : RSt} {u : Nat} {U : Nat → RSt} {r : Nat} {R : Nat → RSt} {k : Nat} {M : Nat → RSt} (hM : MS K A m) (hG : RGR I J m S u U r R k M) (ht : t < 4) (hfr : fr < 48) (hw : ∀ i, i < 12 → rv J m fr i = w i)
    (q : ∀ I' J', (∀ b, b ≠ m → I' b = I b) → (∀ j, j ≠ 1 → j ≠ 2 → j ≠ 28 → j ≠ 29 → I' m j = I m j) → I' m 1 = 0 → I' m 2 = -1 → (∀ b, b ≠ m + 7 → b ≠ m + 8 → J' b = J b) → RGR I' J' m (putR S t w) (actN u) (actF u U S) 0 R k M → Q 1 (K, I', J', A)) : wp (f_X13_stores (some m) (zn fr) (zn t)) Q (K, I, J, A) := by
  have hM' := hM
  obtain ⟨m0, ⟨a5, a6, a7, a21, a22, a23, a24, a25, a26, a27⟩, ⟨k1, k2, k3, k4, k5, k6, k7, k8, k9, k10⟩, hm⟩ := hM'
  unfold f_X13_stores
  refine b_ck m0 (wp_bd (t_acts hM hG (fun I1 J1 hf1 hf2 h1 h2 hfJ hG1 => ?_)))
  unfold f_X13_stores_l7
  refine for1 (N := 12) (fun k I' J' => I' = I1 ∧ (∀ b, b ≠ m + 7 → J' b = J1 b) ∧ (∀ i, i < k → J' (m + 7) (0 * 49 + 1 + t * 12 + i) = w i) ∧ ∀ j, (j < 1 + t * 12 ∨ 1 + t * 12 + 12 ≤ j) → J' (m + 7) j = J1 (m + 7) j) ?_ ?_ (k := 0) (by omega) (by unfold fuel; omega) ⟨rfl, fun b _ => rfl, fun i _ => by omega, fun j _ => rfl⟩
  · rintro k I' J' R' hk ⟨rfl, hf, hv, ho⟩ hR'
    unfold f_X13_stores_b7
    rw [idx12, r12]
    refine wp_ifn (ge_f (b := 12) (by omega)) (b_getA m0 a24 (b_getA m0 a5 (b_ldJ k1 (by omega) (by omega) (b_stJ k7 (by omega) (by omega) (by omega) (hR' _ _ ⟨rfl, fun b hb => ?_, fun i hi => ?_, fun j hj => ?_⟩)))))
    · rw [st2_nb hb]; exact hf b hb
    · by_cases hik : i = k
      · subst hik
        rw [st2_at, hf (m + 1) (by omega), hfJ (m + 1) (by omega)]
        exact hw i hk
      · rw [st2_nk (by omega)]; exact hv i (by omega)
    · rw [st2_nk (by omega)]; exact ho j hj
  · rintro I' J' R' ⟨rfl, hf, hv, ho⟩
    unfold f_X13_stores_b7
    obtain ⟨hi, hur, hS, hU, hR, hMM⟩ := hG1
    refine wp_ifp (ge_t (b := 12) (by omega)) (wp_rt (q _ J' hf1 hf2 h1 h2 (fun b h3 h4 => by rw [hf b h3, hfJ b h4]) ⟨hi, hur, ⟨?_, fun r hr i hi => ?_⟩, fun j hj => ?_, fun j hj => by omega, fun j hj => ?_⟩))
    · rw [ho _ (by omega)]; exact hS.1
    · show _ = if r = t then w i else S.2 r i
      by_cases h : r = t
      · rw [if_pos h, h]; exact hv i hi
      · rw [if_neg h, ho _ (by omega)]; exact hS.2 r hr i hi
    · rw [hf (m + 8) (by omega)]; exact hU j hj
    · rw [hf (m + 10) (by omega)]; exact hMM j hj
end
