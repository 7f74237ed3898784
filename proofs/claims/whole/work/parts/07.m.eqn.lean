/-! ===== equations ===== -/
def valE (p : Nat) (c u : Nat → Nat) (t x : Nat) : Nat := c t * x ^ u t % p
def spI (p by' : Nat) (D : Nat → Int64) (w : Nat → Int64) : Nat → (Nat → Int64)
  | 0 => w
  | v + 1 => adw (spI p by' D w v) ((v + by') % p) (D v)
def spO (p : Nat) (f : Nat → Nat) (D : Nat → Int64) : Nat → (Nat → Int64)
  | 0 => wz
  | x + 1 => spI p (f x) D (spO p f D x) p
def dis (p : Nat) (c u : Nat → Nat) : Nat → (Nat → Int64)
  | 0 => wu 1
  | t + 1 => spO p (valE p c u t) (dis p c u t) p
def smJ (f : Nat → Int64) : Nat → Int64
  | 0 => 0
  | k + 1 => smJ f k + f k
theorem spI_congr {p b : Nat} {D D' : Nat → Int64} {w : Nat → Int64} : ∀ V, (∀ v, v < V → D v = D' v) → spI p b D w V = spI p b D' w V := by
  intro V
  induction V with
  | zero => intro _; rfl
  | succ V ih =>
    intro h
    show adw _ _ _ = adw _ _ _
    rw [ih (fun v hv => h v (by omega)), h V (by omega)]
theorem spI_val {p b : Nat} {D w : Nat → Int64} (hb : b < p) {j : Nat} (hj : j < p) : ∀ V, V ≤ p → spI p b D w V j = w j + (if (j + p - b) % p < V then D ((j + p - b) % p) else 0) := by
  have hm := Nat.mod_lt (j + p - b) (show p > 0 by omega)
  have back : ((j + p - b) % p + b) % p = j := by
    by_cases h : b ≤ j
    · rw [show j + p - b = (j - b) + p by omega, Nat.add_mod_right, Nat.mod_eq_of_lt (show j - b < p by omega), show j - b + b = j by omega, Nat.mod_eq_of_lt hj]
    · rw [Nat.mod_eq_of_lt (show j + p - b < p by omega), show j + p - b + b = j + p by omega, Nat.add_mod_right, Nat.mod_eq_of_lt hj]
  intro V
  induction V with
  | zero => intro _; rw [if_neg (by omega), Int64.add_zero]; rfl
  | succ V ih =>
    intro hV
    have ih' := ih (by omega)
    show adw (spI p b D w V) _ _ j = _
    unfold adw
    generalize hv0 : (j + p - b) % p = v0 at *
    by_cases h : V = v0
    · subst h
      rw [back, setf_at, ih', if_neg (by omega), if_pos (by omega), Int64.add_zero]
    · have hne : ¬ j = (V + b) % p := by
        intro e
        apply h
        rw [← hv0, e]
        by_cases h1 : V + b < p
        · rw [Nat.mod_eq_of_lt h1, show V + b + p - b = V + p by omega, Nat.add_mod_right, Nat.mod_eq_of_lt (by omega)]
        · have h6 : (V + b) % p = V + b - p := by rw [Nat.mod_eq_sub_mod (show p ≤ V + b by omega), Nat.mod_eq_of_lt (by omega)]
          rw [h6, show V + b - p + p - b = V by omega, Nat.mod_eq_of_lt (by omega)]
      rw [setf_ne hne, ih']
      by_cases h2 : v0 < V
      · rw [if_pos h2, if_pos (by omega)]
      · rw [if_neg h2, if_neg (by omega)]
theorem spO_val {p : Nat} {f : Nat → Nat} {D : Nat → Int64} (hf : ∀ x, f x < p) {j : Nat} (hj : j < p) : ∀ X, spO p f D X j = smJ (fun x => D ((j + p - f x) % p)) X := by
  intro X
  induction X with
  | zero => rfl
  | succ X ih =>
    have hm := Nat.mod_lt (j + p - f X) (show p > 0 by omega)
    show spI p (f X) D (spO p f D X) p j = smJ _ X + _
    rw [spI_val (hf X) hj p (Nat.le_refl _), if_pos hm, ih]
section
variable {β : Type} {K : List (Nat × Nat)} {I : Nat → Nat → Int32} {J : Nat → Nat → Int64} {A : Nat → Nat → Option Nat}
def ES (K : List (Nat × Nat)) (A : Nat → Nat → Option Nat) (e : Nat) : Prop := kk K e = (0, 1) ∧ (A e 0 = some (e + 1) ∧ A e 1 = some (e + 2) ∧ A e 2 = some (e + 3) ∧ A e 3 = some (e + 4)) ∧ (kk K (e + 1) = (1, 3) ∧ kk K (e + 2) = (1, 3) ∧ kk K (e + 3) = (2, 199) ∧ kk K (e + 4) = (2, 199)) ∧ 64 ≤ e
/-- an equation's terms: so many, each at most p - 1 times a power of 1 to 12 -/
def okE (p T : Nat) (c u : Nat → Nat) : Prop := 1 ≤ T ∧ T ≤ 3 ∧ ∀ t, t < T → (c t < p ∧ 1 ≤ u t ∧ u t ≤ 12)
def EC (I : Nat → Nat → Int32) (e p T r : Nat) (c u : Nat → Nat) : Prop := I e 4 = zn p ∧ I e 5 = zn T ∧ I e 6 = zn r ∧ ∀ t, t < T → (I (e + 1) t = zn (c t) ∧ I (e + 2) t = zn (u t))
theorem valE_lt {p : Nat} {c u : Nat → Nat} {t x : Nat} (hp : 1 ≤ p) : valE p c u t x < p := Nat.mod_lt _ hp
theorem t_valueAt {e p T r t x : Nat} {c u : Nat → Nat} (hE : ES K A e) (hC : EC I e p T r c u) (hp : 3 ≤ p ∧ p ≤ 199) (hk : okE p T c u) (ht : t < T) (hx : x < p) : f_X1_valueAt (some e) (zn t) (zn x) (K, I, J, A) = some (zn (valE p c u t x), (K, I, J, A)) := by
  apply wp_get
  obtain ⟨e0, ⟨ea0, ea1, ea2, ea3⟩, ⟨ek1, ek2, ek3, ek4⟩, he⟩ := hE
  obtain ⟨c4, c5, c6, c7⟩ := hC
  obtain ⟨k1, k2, k3⟩ := hk
  obtain ⟨d1, d2, d3⟩ := k3 t ht
  obtain ⟨g1, g2⟩ := c7 t ht
  unfold f_X1_valueAt
  refine b_getA e0 ea0 (b_eq (t_cellp ek1 (by omega) (by omega)) ?_)
  rw [g1]
  unfold f_X1_valueAt_l12
  refine pf2 (N := u t) (fun i y => y = zn (c t * x ^ i % p)) ?_ ?_ (k := 0) (by omega) (by unfold fuel; omega) (by rw [Nat.pow_zero, Nat.mul_one, Nat.mod_eq_of_lt d1])
  · rintro i y R hi rfl hR
    unfold f_X1_valueAt_b12
    refine b_getA e0 ea1 (b_eq (t_cellp ek2 (by omega) (by omega)) ?_)
    rw [g2]
    refine wp_ifn (ge_f (by omega)) (b_getIv e0 c4 ?_)
    have hm := Nat.mod_lt (c t * x ^ i) (show p > 0 by omega)
    have hmm : c t * x ^ i % p * x ≤ 199 * 199 := Nat.mul_le_mul (by omega) (by omega)
    rw [zn_mul]
    refine b_eq (t_modn (zn_i64 (by omega)) (by omega) (by omega)) (hR _ ?_)
    rw [Nat.mod_mul_mod, Nat.pow_succ, Nat.mul_assoc]
  · rintro y R rfl
    unfold f_X1_valueAt_b12
    refine b_getA e0 ea1 (b_eq (t_cellp ek2 (by omega) (by omega)) ?_)
    rw [g2]
    exact wp_ifp (ge_t (by omega)) (wp_rt ⟨rfl, rfl⟩)
theorem t_spread {Q : Unit → Hp → Prop} {e p T r t : Nat} {c u : Nat → Nat} {D : Nat → Int64} (hE : ES K A e) (hC : EC I e p T r c u) (hp : 3 ≤ p ∧ p ≤ 199) (hk : okE p T c u) (ht : t < T) (hD : ∀ j, j < p → J (e + 3) j = D j)
    (q : ∀ J', (∀ b, b ≠ e + 3 → b ≠ e + 4 → J' b = J b) → (∀ j, j < p → J' (e + 3) j = spO p (valE p c u t) D p j) → Q () (K, I, J', A)) : wp (f_X1_spread (some e) (zn t)) Q (K, I, J, A) := by
  have hE' := hE
  have hC' := hC
  obtain ⟨e0, ⟨ea0, ea1, ea2, ea3⟩, ⟨ek1, ek2, ek3, ek4⟩, he⟩ := hE'
  obtain ⟨c4, c5, c6, c7⟩ := hC'
  unfold f_X1_spread
  refine b_getA e0 ea3 (wp_bd (t_setWhole ek4 (by omega) (by omega) (fun J1 hf1 hv1 => ?_)))
  unfold f_X1_spread_l10
  refine for1 (N := p) (fun x I' J' => I' = I ∧ (∀ b, b ≠ e + 4 → J' b = J b) ∧ ∀ j, j < p → J' (e + 4) j = spO p (valE p c u t) D x j) ?_ ?_ (k := 0) (by omega) (by unfold fuel; omega) ⟨rfl, hf1, fun j hj => by rw [hv1 j (by omega)]; split <;> rfl⟩
  · rintro x I' J' R hx ⟨rfl, hf, hv⟩ hR
    unfold f_X1_spread_b10
    refine b_getIv e0 c4 (wp_ifn (ge_f (by omega)) (b_ck e0 (b_eq (t_valueAt hE hC hp hk ht hx) ?_)))
    have hvl := valE_lt (c := c) (u := u) (t := t) (x := x) (show 1 ≤ p by omega)
    unfold f_X1_spread_l28
    refine for1 (N := p) (fun v I'' J'' => I'' = I' ∧ (∀ b, b ≠ e + 4 → J'' b = J b) ∧ ∀ j, j < p → J'' (e + 4) j = spI p (valE p c u t x) D (spO p (valE p c u t) D x) v j) ?_ ?_ (k := 0) (by omega) (by unfold fuel; omega) ⟨rfl, hf, hv⟩
    · rintro v I'' J'' R2 hv' ⟨rfl, hf2, hv2⟩ hR2
      unfold f_X1_spread_b28
      refine b_getIv e0 c4 (wp_ifn (ge_f (by omega)) (b_getA e0 ea2 (b_eq (t_atp ek3 (by omega) (by omega)) ?_)))
      rw [hf2 (e + 3) (by omega), hD v hv']
      have stepv : ∀ j, spI p (valE p c u t x) D (spO p (valE p c u t) D x) (v + 1) j = adw (spI p (valE p c u t x) D (spO p (valE p c u t) D x) v) ((v + valE p c u t x) % p) (D v) j := fun j => rfl
      by_cases hz : D v = 0
      · refine wp_ifp hz (hR2 _ _ ⟨rfl, hf2, fun j hj => ?_⟩)
        rw [stepv, hv2 j hj, hz]
        unfold adw
        by_cases h : j = (v + valE p c u t x) % p
        · subst h; rw [setf_at, Int64.add_zero]
        · rw [setf_ne h]
      · have hm := Nat.mod_lt (v + valE p c u t x) (show p > 0 by omega)
        refine wp_ifn hz (b_getIv e0 c4 ?_)
        rw [zn_add]
        refine b_eq (t_modn (zn_i64 (by omega)) (by omega) (by omega)) (b_getA e0 ea3 (b_getA e0 ea3 (b_eq (t_atp ek4 (by omega) (by omega)) (b_eq (t_put ek4 (by omega) (by omega) (by omega)) (hR2 _ _ ⟨rfl, fun b hb => ?_, fun j hj => ?_⟩)))))
        · rw [st2_nb hb]; exact hf2 b hb
        · rw [stepv]
          exact ag_st2 hv2 (by rw [hv2 _ hm]) j hj
    · rintro I'' J'' R2 ⟨rfl, hf2, hv2⟩
      unfold f_X1_spread_b28
      exact b_getIv e0 c4 (wp_ifp (ge_t (by omega)) (hR _ _ ⟨rfl, hf2, hv2⟩))
  · rintro I' J' R ⟨rfl, hf, hv⟩
    unfold f_X1_spread_b10
    refine b_getIv e0 c4 (wp_ifp (ge_t (by omega)) (b_getA e0 ea3 (b_getA e0 ea2 (wp_bd (t_copy ek4 ek3 (by omega) (by omega) (by omega) (by omega) (fun J2 hf2 hv2 => wp_rt (q J2 (fun b h1 h2 => ?_) (fun j hj => ?_))))))))
    · rw [hf2 b h1, hf b h2]
    · rw [hv2 j (by omega), if_pos (by omega), hv j hj]
theorem spO_congr {p : Nat} {f : Nat → Nat} {D D' : Nat → Int64} (h : ∀ v, v < p → D v = D' v) : ∀ X, spO p f D X = spO p f D' X := by
  intro X
  induction X with
  | zero => rfl
  | succ X ih =>
    show spI _ _ _ _ _ = spI _ _ _ _ _
    rw [ih, spI_congr p h]
theorem t_ways {Q : Int32 → Hp → Prop} {e p T r w : Nat} {c u : Nat → Nat} (hE : ES K A e) (hC : EC I e p T r c u) (hp : 3 ≤ p ∧ p ≤ 199) (hk : okE p T c u) (hw : w < p)
    (q : ∀ J', (∀ b, b ≠ e + 3 → b ≠ e + 4 → J' b = J b) → Q (dis p c u T w).toInt32 (K, I, J', A)) : wp (f_X1_ways (some e) (zn w)) Q (K, I, J, A) := by
  have hE' := hE
  have hC' := hC
  have hk' := hk
  obtain ⟨e0, ⟨ea0, ea1, ea2, ea3⟩, ⟨ek1, ek2, ek3, ek4⟩, he⟩ := hE'
  obtain ⟨c4, c5, c6, c7⟩ := hC'
  obtain ⟨k1, k2, k3⟩ := hk'
  unfold f_X1_ways
  refine b_getA e0 ea2 (wp_bd (t_setWhole ek3 (by omega) (by omega) (fun J1 hf1 hv1 => ?_)))
  unfold f_X1_ways_l10
  refine for1 (N := T - 1) (fun t I' J' => I' = I ∧ (∀ b, b ≠ e + 3 → b ≠ e + 4 → J' b = J b) ∧ ∀ j, j < p → J' (e + 3) j = dis p c u t j) ?_ ?_ (k := 0) (by omega) (by unfold fuel; omega) ⟨rfl, fun b h1 _ => hf1 b h1, fun j hj => hv1 j (by omega)⟩
  · rintro t I' J' R ht ⟨rfl, hf, hv⟩ hR
    unfold f_X1_ways_b10
    refine b_getIv e0 c5 ?_
    rw [zn_succ]
    refine wp_ifn (ge_f (by omega)) (b_ck e0 (wp_bd (t_spread hE hC hp hk (by omega) hv (fun J2 hf2 hv2 => ?_))))
    rw [← zn_succ]
    refine hR _ _ ⟨rfl, fun b h1 h2 => ?_, hv2⟩
    rw [hf2 b h1 h2, hf b h1 h2]
  · rintro I' J' R ⟨rfl, hf, hv⟩
    unfold f_X1_ways_b10
    refine b_getIv e0 c5 ?_
    rw [zn_succ]
    refine wp_ifp (ge_t (by omega)) ?_
    unfold f_X1_ways_l36
    refine pf2 (N := p) (fun x acc => acc = smJ (fun x => dis p c u (T - 1) ((w + p - valE p c u (T - 1) x) % p)) x) ?_ ?_ (k := 0) (by omega) (by unfold fuel; omega) rfl
    · rintro x acc R2 hx rfl hR2
      unfold f_X1_ways_b36
      refine b_getIv e0 c4 (wp_ifn (ge_f (by omega)) (b_getA e0 ea2 (b_getIv e0 c5 ?_)))
      rw [zn_pred1 k1]
      refine b_ck e0 (b_eq (t_valueAt hE hC hp hk (by omega) hx) (b_getIv e0 c4 ?_))
      have hvl := valE_lt (c := c) (u := u) (t := T - 1) (x := x) (show 1 ≤ p by omega)
      rw [show zn w - zn (valE p c u (T - 1) x) = zi ((w : Int) - (valE p c u (T - 1) x : Int)) from by rw [zn_zi, zn_zi]; exact zi_sub _ _]
      refine b_eq (t_mod (zj_zi (by omega) (by omega)) (by omega) (by omega)) ?_
      rw [subm hw hvl]
      have hm := Nat.mod_lt (w + p - valE p c u (T - 1) x) (show p > 0 by omega)
      refine b_eq (t_atp ek3 (by omega) (by omega)) (b_nm (hR2 _ ?_))
      rw [hv _ hm]; rfl
    · rintro acc R2 rfl
      unfold f_X1_ways_b36
      refine b_getIv e0 c4 (wp_ifp (ge_t (by omega)) (wp_rt ?_))
      have := q J' hf
      rw [show T = (T - 1) + 1 by omega] at this
      rw [show dis p c u (T - 1 + 1) w = spO p (valE p c u (T - 1)) (dis p c u (T - 1)) p w from rfl, spO_val (fun x => valE_lt (by omega)) hw] at this
      exact this
/-! the reference's -/
def BS (K : List (Nat × Nat)) (A : Nat → Nat → Option Nat) (b : Nat) : Prop := kk K b = (0, 9) ∧ (A b 4 = some (b + 1) ∧ A b 5 = some (b + 2) ∧ A b 6 = some (b + 3) ∧ A b 7 = some (b + 4) ∧ A b 8 = some (b + 5) ∧ A b 9 = some (b + 6) ∧ A b 10 = some (b + 7) ∧ A b 11 = some (b + 8) ∧ A b 12 = some (b + 9) ∧ A b 13 = some (b + 10) ∧ A b 14 = some (b + 11)) ∧
  (kk K (b + 1) = (7, 4) ∧ kk K (b + 2) = (1, 4) ∧ kk K (b + 3) = (1, 4) ∧ kk K (b + 4) = (1, 4) ∧ kk K (b + 5) = (1, 12) ∧ kk K (b + 6) = (1, 12) ∧ kk K (b + 7) = (1, 8) ∧ kk K (b + 8) = (2, 96) ∧ kk K (b + 9) = (2, 16) ∧ kk K (b + 10) = (1, 16) ∧ kk K (b + 11) = (1, 16)) ∧ 64 ≤ b
/-- equation i of the reference's book b -/
def REC (I : Nat → Nat → Int32) (b i fi T r : Nat) (c u : Nat → Nat) : Prop := I (b + 2) i = zn fi ∧ I (b + 3) i = zn T ∧ I (b + 4) i = zn r ∧ ∀ t, t < T → (I (b + 5) (3 * i + t) = zn (c t) ∧ I (b + 6) (3 * i + t) = zn (u t))
theorem ag_st2I {I : Nat → Nat → Int32} {b e N : Nat} {v : Int32} {x : Int64} {w : Nat → Int64} (h : ∀ i, i < N → I b i = (w i).toInt32) (hv : v = x.toInt32) : ∀ i, i < N → st2 I b e v b i = (setf w e x i).toInt32 := by
  intro i hi
  by_cases he : i = e
  · subst he; rw [st2_at, setf_at, hv]
  · rw [st2_nk he, setf_ne he]; exact h i hi
theorem t_counts {Q : Unit → Hp → Prop} {m b i fi fo p n T r : Nat} {c u : Nat → Nat} (hM : MS K A m) (hB : BS K A b) (hmb : A m 3 = some b) (hbm : b + 11 < m ∨ m + 10 < b) (hi : i < 4) (hE : REC I b i fi T r c u) (hfi : fi < 4) (hfo : A (b + 1) fi = some fo) (hF : RFS K A fo) (hfp : I fo 0 = zn p) (hp : 3 ≤ p ∧ p ≤ 199) (hk : okE p T c u)
    (q : ∀ I', (∀ b, b ≠ m + 4 → b ≠ m + 5 → I' b = I b) → (∀ j, j < p → I' (m + 4) j = (dis p c u T j).toInt32) → Q () (K, I', J, A)) : wp (f_X13_counts (some m) (zn i)) Q (K, I, J, A) := by
  obtain ⟨m0, ⟨a5, a6, a7, a21, a22, a23, a24, a25, a26, a27⟩, ⟨k1, k2, k3, k4, k5, k6, k7, k8, k9, k10⟩, hm⟩ := hM
  obtain ⟨b0, ⟨ba4, ba5, ba6, ba7, ba8, ba9, ba10, ba11, ba12, ba13, ba14⟩, ⟨bk1, bk2, bk3, bk4, bk5, bk6, bk7, bk8, bk9, bk10, bk11⟩, hb⟩ := hB
  obtain ⟨f0, ⟨fa4, fa5⟩, ⟨fk1, fk2⟩, hf⟩ := hF
  obtain ⟨e1, e2, e3, e4⟩ := hE
  obtain ⟨kk1, kk2, kk3⟩ := hk
  have hp0 : ¬ zn p = 0 := by rw [zn0 (by omega)]; omega
  unfold f_X13_counts
  refine b_getA m0 hmb (b_getA b0 ba4 (b_getA m0 hmb (b_getA b0 ba5 (b_ldI bk2 hi (by omega) ?_))))
  rw [e1]
  refine b_ldA bk1 (by decide) hfi (by omega) ?_
  rw [hfo]
  refine b_getIv f0 hfp ?_
  unfold f_X13_counts_l23
  refine for1 (N := p) (fun v I' J' => J' = J ∧ (∀ b, b ≠ m + 4 → b ≠ m + 5 → I' b = I b) ∧ ∀ j, j < v → I' (m + 4) j = (wu 1 j).toInt32) ?_ ?_ (k := 0) (by omega) (by unfold fuel; omega) ⟨rfl, fun b _ _ => rfl, fun j _ => by omega⟩
  · rintro v I' J' R hv ⟨rfl, hfr, hvv⟩ hR
    unfold f_X13_counts_b23
    refine wp_ifn (ge_f (by omega)) (b_getA m0 a21 ?_)
    have fin : ∀ x : Int32, x = (wu 1 v).toInt32 → wp (mBd (mStI (some (m + 4)) (zn v) x) (fun _ => R (zn v + 1))) Q (K, I', J', A) := by
      intro x hx
      refine b_stI k4 (by omega) (by omega) (by omega) (hR _ _ ⟨rfl, fun b h1 h2 => ?_, fun j hj => ?_⟩)
      · rw [st2_nb h1]; exact hfr b h1 h2
      · by_cases hjv : j = v
        · subst hjv; rw [st2_at, hx]
        · rw [st2_nk hjv]; exact hvv j (by omega)
    refine wp_ifq (not_congr (zn0 (by omega))) ?_
    by_cases h0 : v = 0
    · exact wp_ifn (fun q => q h0) (fin _ (by unfold wu; rw [if_pos h0]; rfl))
    · exact wp_ifp h0 (fin _ (by unfold wu; rw [if_neg h0]; rfl))
  · rintro I1 J1 R ⟨rfl, hfr1, hv1⟩
    unfold f_X13_counts_b23
    refine wp_ifp (ge_t (by omega)) ?_
    unfold f_X13_counts_l51
    refine for1 (N := T) (fun t I' J' => J' = J1 ∧ (∀ b, b ≠ m + 4 → b ≠ m + 5 → I' b = I b) ∧ ∀ j, j < p → I' (m + 4) j = (dis p c u t j).toInt32) ?_ ?_ (k := 0) (by omega) (by unfold fuel; omega) ⟨rfl, hfr1, hv1⟩
    · rintro t I2 J2 R2 ht ⟨rfl, hfr2, hv2⟩ hR2
      obtain ⟨d1, d2, d3⟩ := kk3 t ht
      obtain ⟨g1, g2⟩ := e4 t ht
      unfold f_X13_counts_b51
      refine b_getA m0 hmb (b_getA b0 ba6 (b_ldI bk3 hi (by omega) ?_))
      rw [hfr2 (b + 3) (by omega) (by omega), e2]
      refine wp_ifn (ge_f (by omega)) ?_
      unfold f_X13_counts_l67
      refine for1 (N := p) (fun v I' J' => J' = J2 ∧ (∀ b, b ≠ m + 5 → I' b = I2 b) ∧ ∀ j, j < v → I' (m + 5) j = (wz j).toInt32) ?_ ?_ (k := 0) (by omega) (by unfold fuel; omega) ⟨rfl, fun b _ => rfl, fun j _ => by omega⟩
      · rintro v I' J' R3 hv ⟨rfl, hfr, hvv⟩ hR3
        unfold f_X13_counts_b67
        refine wp_ifn (ge_f (by omega)) (b_getA m0 a22 (b_stI k5 (by omega) (by omega) (by omega) (hR3 _ _ ⟨rfl, fun b h1 => ?_, fun j hj => ?_⟩)))
        · rw [st2_nb h1]; exact hfr b h1
        · by_cases hjv : j = v
          · subst hjv; rw [st2_at]; rfl
          · rw [st2_nk hjv]; exact hvv j (by omega)
      · rintro I3 J3 R3 ⟨rfl, hfr3, hv3⟩
        unfold f_X13_counts_b67
        refine wp_ifp (ge_t (by omega)) ?_
        unfold f_X13_counts_l90
        refine for1 (N := p) (fun x I' J' => J' = J3 ∧ (∀ b, b ≠ m + 5 → I' b = I2 b) ∧ ∀ j, j < p → I' (m + 5) j = (spO p (valE p c u t) (dis p c u t) x j).toInt32) ?_ ?_ (k := 0) (by omega) (by unfold fuel; omega) ⟨rfl, hfr3, hv3⟩
        · rintro x I4 J4 R4 hx ⟨rfl, hfr4, hv4⟩ hR4
          have fr4 : ∀ b, b ≠ m + 4 → b ≠ m + 5 → I4 b = I b := fun b h1 h2 => (hfr4 b h2).trans (hfr2 b h1 h2)
          unfold f_X13_counts_b90
          refine wp_ifn (ge_f (by omega)) (b_getA m0 hmb (b_getA b0 ba8 ?_))
          rw [show (3 : Int32) * zn i + zn t = zn (3 * i + t) from by rw [← zn_add, ← zn_mul]; rfl]
          refine b_ldI bk5 (by omega) (by omega) ?_
          rw [fr4 (b + 5) (by omega) (by omega), g1]
          refine b_getA m0 hmb (b_getA b0 ba9 (b_ldI bk6 (by omega) (by omega) ?_))
          rw [fr4 (b + 6) (by omega) (by omega), g2]
          refine b_eq (t_raised (by omega) (by omega) (by omega)) (wp_rq hp0 (b_nm ?_))
          have hm1 := Nat.mod_lt (x ^ u t) (show p > 0 by omega)
          have hmm : c t * (x ^ u t % p) ≤ 199 * 199 := Nat.mul_le_mul (by omega) (by omega)
          rw [zn_mul, irem_zn (by omega) (by omega), show c t * (x ^ u t % p) % p = valE p c u t x from by unfold valE; rw [Nat.mul_mod_mod]]
          have hvl := valE_lt (c := c) (u := u) (t := t) (x := x) (show 1 ≤ p by omega)
          unfold f_X13_counts_l136
          refine for1 (N := p) (fun v I' J' => J' = J4 ∧ (∀ b, b ≠ m + 5 → I' b = I2 b) ∧ ∀ j, j < p → I' (m + 5) j = (spI p (valE p c u t x) (dis p c u t) (spO p (valE p c u t) (dis p c u t) x) v j).toInt32) ?_ ?_ (k := 0) (by omega) (by unfold fuel; omega) ⟨rfl, hfr4, hv4⟩
          · rintro v I5 J5 R5 hv ⟨rfl, hfr5, hv5⟩ hR5
            have hmv := Nat.mod_lt (v + valE p c u t x) (show p > 0 by omega)
            unfold f_X13_counts_b136
            refine wp_ifn (ge_f (by omega)) (b_getA m0 a22 (wp_rq hp0 ?_))
            rw [zn_add, irem_zn (by omega) (by omega)]
            refine b_ldI k5 (by omega) (by omega) (b_getA m0 a21 (b_ldI k4 (by omega) (by omega) (b_stI k5 (by omega) (by omega) (by omega) (hR5 _ _ ⟨rfl, fun b h1 => ?_, fun j hj => ?_⟩))))
            · rw [st2_nb h1]; exact hfr5 b h1
            · refine ag_st2I (N := p) hv5 ?_ j hj
              rw [hv5 _ hmv, hfr5 (m + 4) (by omega), hv2 v hv, Int64.toInt32_add]
          · rintro I5 J5 R5 ⟨rfl, hfr5, hv5⟩
            unfold f_X13_counts_b136
            exact wp_ifp (ge_t (by omega)) (hR4 _ _ ⟨rfl, hfr5, hv5⟩)
        · rintro I4 J4 R4 ⟨rfl, hfr4, hv4⟩
          unfold f_X13_counts_b90
          refine wp_ifp (ge_t (by omega)) ?_
          unfold f_X13_counts_l179
          refine for1 (N := p) (fun v I' J' => J' = J4 ∧ (∀ b, b ≠ m + 4 → I' b = I4 b) ∧ ∀ j, j < v → I' (m + 4) j = (dis p c u (t + 1) j).toInt32) ?_ ?_ (k := 0) (by omega) (by unfold fuel; omega) ⟨rfl, fun b _ => rfl, fun j _ => by omega⟩
          · rintro v I5 J5 R5 hv ⟨rfl, hfr5, hv5⟩ hR5
            unfold f_X13_counts_b179
            refine wp_ifn (ge_f (by omega)) (b_getA m0 a21 (b_getA m0 a22 (b_ldI k5 (by omega) (by omega) (b_stI k4 (by omega) (by omega) (by omega) (hR5 _ _ ⟨rfl, fun b h1 => ?_, fun j hj => ?_⟩)))))
            · rw [st2_nb h1]; exact hfr5 b h1
            · by_cases hjv : j = v
              · subst hjv; rw [st2_at, hfr5 (m + 5) (by omega), hv4 j hv]; rfl
              · rw [st2_nk hjv]; exact hv5 j (by omega)
          · rintro I5 J5 R5 ⟨rfl, hfr5, hv5⟩
            unfold f_X13_counts_b179
            refine wp_ifp (ge_t (by omega)) (hR2 _ _ ⟨rfl, fun b h1 h2 => ?_, hv5⟩)
            rw [hfr5 b h1, hfr4 b h2, hfr2 b h1 h2]
    · rintro I2 J2 R2 ⟨rfl, hfr2, hv2⟩
      unfold f_X13_counts_b51
      refine b_getA m0 hmb (b_getA b0 ba6 (b_ldI bk3 hi (by omega) ?_))
      rw [hfr2 (b + 3) (by omega) (by omega), e2]
      exact wp_ifp (ge_t (by omega)) (wp_rt (q I2 hfr2 hv2))
end
