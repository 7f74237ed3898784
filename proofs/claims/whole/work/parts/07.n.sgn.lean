/-! ===== rows of signs ===== -/
def sgv (p x : Nat) : Int32 := if x = 0 then 1 else if lg p x % 2 = 0 then 1 else -1
def sS' (p i : Nat) : Int32 := sgv p (i % p)
def ecI (p r s : Nat) : Nat → Int32
  | 0 => 0
  | i + 1 => ecI p r s i + sS' p (r + i) * sS' p (r + i + s)
def eco (p r s : Nat) : Int32 := ecI p r s (p - s)
def nsI (E : Nat → Int32) : Nat → Int64
  | 0 => 0
  | s + 1 => if s = 0 then 0 else nsI E s + (E s).toInt64 * (E s).toInt64
def noi (p r : Nat) : Int64 := nsI (eco p r) p
def lwI (p : Nat) : Nat → Nat × Int64
  | 0 => (0, noi p 0)
  | r + 1 => if r = 0 then (0, noi p 0) else if noi p r < (lwI p r).2 then (r, noi p r) else lwI p r
theorem irem2' {k : Nat} (hk : k < 2147483648) : irem (zn k) (2 : Int32) = zn (k % 2) := irem_zn (b := 2) hk (by omega)
theorem nsI_s {E : Nat → Int32} {s : Nat} (h : 1 ≤ s) : nsI E (s + 1) = nsI E s + (E s).toInt64 * (E s).toInt64 := by
  show (if s = 0 then _ else _) = _
  rw [if_neg (by omega)]
theorem lwI_s {p r : Nat} (h : 1 ≤ r) : lwI p (r + 1) = if noi p r < (lwI p r).2 then (r, noi p r) else lwI p r := by
  show (if r = 0 then _ else _) = _
  rw [if_neg (by omega)]
theorem nsI_congr {E F : Nat → Int32} : ∀ k, (∀ s, 1 ≤ s → s < k → E s = F s) → nsI E k = nsI F k := by
  intro k
  induction k with
  | zero => intro _; rfl
  | succ k ih =>
    intro h
    by_cases h0 : k = 0
    · subst h0
      exact (if_pos (rfl : (0 : Nat) = 0)).trans (if_pos (rfl : (0 : Nat) = 0)).symm
    · rw [nsI_s (by omega), nsI_s (by omega), ih (fun s h1 h2 => h s h1 (by omega)), h k (by omega) (by omega)]
theorem sS_p (p i : Nat) : sS' p (i + p) = sS' p i := by unfold sS'; rw [Nat.add_mod_right]
theorem ecI_head (p r s : Nat) : ∀ k, ecI p r s (k + 1) = sS' p r * sS' p (r + s) + ecI p (r + 1) s k := by
  intro k
  induction k with
  | zero => show (0 : Int32) + _ = _ + 0; rw [Int32.zero_add, Int32.add_zero]; rfl
  | succ k ih =>
    show ecI p r s (k + 1) + _ = _ + (ecI p (r + 1) s k + _)
    rw [ih, Int32.add_assoc, show r + 1 + k = r + (k + 1) by omega]
theorem eco_next {p r s : Nat} (h1 : 1 ≤ s) (h2 : s < p) : eco p (r + 1) s = eco p r s + sS' p r * (sS' p (r + p - s) - sS' p (r + s)) := by
  unfold eco
  obtain ⟨k, hk⟩ : ∃ k, p - s = k + 1 := ⟨p - s - 1, by omega⟩
  rw [hk, ecI_head p r s k]
  show ecI p (r + 1) s k + sS' p (r + 1 + k) * sS' p (r + 1 + k + s) = _
  rw [show r + 1 + k = r + p - s by omega, show r + p - s + s = r + p by omega, sS_p]
  generalize sS' p r = a
  generalize sS' p (r + p - s) = b
  generalize sS' p (r + s) = c
  generalize ecI p (r + 1) s k = T
  rw [Int32.mul_sub, Int32.mul_comm b a]
  generalize a * b = X
  generalize a * c = Y
  rw [Int32.add_comm Y T, Int32.add_assoc, Int32.add_comm Y (X - Y), Int32.sub_add_cancel]
section
variable {β : Type} {K : List (Nat × Nat)} {I : Nat → Nat → Int32} {J : Nat → Nat → Int64} {A : Nat → Nat → Option Nat}
def SS (K : List (Nat × Nat)) (A : Nat → Nat → Option Nat) (s : Nat) : Prop := kk K s = (0, 6) ∧ (A s 0 = some (s + 1) ∧ A s 1 = some (s + 2)) ∧ (kk K (s + 1) = (1, 199) ∧ kk K (s + 2) = (1, 199)) ∧ 64 ≤ s
def SC (I : Nat → Nat → Int32) (s p : Nat) : Prop := I s 2 = zn p ∧ ∀ x, x < p → I (s + 1) x = sgv p x
theorem FC.mv {I I' : Nat → Nat → Int32} {a p n : Nat} (h : FC I a p n) (e0 : I' a = I a) (e1 : I' (a + 1) = I (a + 1)) (e2 : I' (a + 2) = I (a + 2)) : FC I' a p n := by
  obtain ⟨c1, c2, c3, c4⟩ := h
  exact ⟨by rw [e0]; exact c1, by rw [e0]; exact c2, fun e he => by rw [e2]; exact c3 e he, fun x h1 h2 => by rw [e1]; exact c4 x h1 h2⟩
theorem RFC.mvI {I I' : Nat → Nat → Int32} {J : Nat → Nat → Int64} {f p n : Nat} (h : RFC I J f p n) (e0 : I' f = I f) (e1 : I' (f + 1) = I (f + 1)) : RFC I' J f p n := by
  obtain ⟨⟨c1, c2, c3, c4⟩, c5, c6⟩ := h
  exact ⟨⟨by rw [e0]; exact c1, by rw [e0]; exact c2, by rw [e0]; exact c3, by rw [e0]; exact c4⟩, fun x h1 h2 => by rw [e1]; exact c5 x h1 h2, c6⟩
theorem t_sbecome {Q : Unit → Hp → Prop} {s a p n : Nat} (hS : SS K A s) (hF : FS K A a) (hC : FC I a p n) (hpn : pn p n) (hsa : a + 3 < s ∨ s + 2 < a) (q : ∀ I', (∀ b, b ≠ s → b ≠ s + 1 → I' b = I b) → SC I' s p → Q () (K, I', J, A)) : wp (f_X7_become (some s) (some a)) Q (K, I, J, A) := by
  have hr := pn_rng hpn
  obtain ⟨s0, ⟨sa0, sa1⟩, ⟨sk1, sk2⟩, hs⟩ := hS
  unfold f_X7_become
  refine wp_ifn (by simp) (b_ck hF.1 ?_)
  unfold f_X2_prime
  refine b_assoc (b_getIv hF.1 hC.1 (b_rt ?_))
  unfold f_X7_become_j13
  refine b_putI s0 hs (b_getA s0 sa0 (b_eq (t_mark (j := 0) sk1 (by omega) (by omega) (by omega)) ?_))
  unfold f_X7_become_l27
  refine for1 (N := p) (fun k I' J' => J' = J ∧ 1 ≤ k ∧ (∀ b, b ≠ s → b ≠ s + 1 → I' b = I b) ∧ I' s 2 = zn p ∧ ∀ x, x < k → I' (s + 1) x = sgv p x) ?_ ?_ (k := 1) (by omega) (by unfold fuel; omega) ⟨rfl, by omega, fun b h1 h2 => by rw [st2_nb h2, st2_nb h1], by rw [st2_na (by omega), st2_at], fun x hx => ?_⟩
  · rintro k I' J' R hk ⟨rfl, h1, hf, hp, hv⟩ hR
    have hC' := hC.mv (hf a (by omega) (by omega)) (hf (a + 1) (by omega) (by omega)) (hf (a + 2) (by omega) (by omega))
    unfold f_X7_become_b27
    refine b_getIv s0 hp (wp_ifn (ge_f (by omega)) (b_getA s0 sa0 (b_ck hF.1 (b_eq (t_logOf hF hC' hpn h1 hk) ?_))))
    have hl := lg_lt hpn.1 h1 hk
    rw [irem2' (by omega)]
    have fin : ∀ v : Int32, v = sgv p k → wp (mBd (f_X6_mark (some (s + 1)) (zn k) v) (fun _ => R (zn k + 1))) Q (K, I', J', A) := by
      intro v hv'
      refine b_eq (t_mark sk1 (by omega) (by omega) (by omega)) (hR _ _ ⟨rfl, by omega, fun b h2 h3 => ?_, ?_, fun x hx => ?_⟩)
      · rw [st2_nb h3]; exact hf b h2 h3
      · rw [st2_na (by omega)]; exact hp
      · by_cases h : x = k
        · subst h; rw [st2_at, hv']
        · rw [st2_nk h]; exact hv x (by omega)
    refine wp_ifq (not_congr (zn0 (by omega))) ?_
    by_cases h : lg p k % 2 = 0
    · exact wp_ifn (fun q => q h) (fin 1 (by unfold sgv; rw [if_neg (by omega), if_pos h]))
    · exact wp_ifp h (fin (-1) (by unfold sgv; rw [if_neg (by omega), if_neg h]))
  · rintro I' J' R ⟨rfl, h1, hf, hp, hv⟩
    unfold f_X7_become_b27
    exact b_getIv s0 hp (wp_ifp (ge_t (by omega)) (wp_rt (q I' hf ⟨hp, hv⟩)))
  · have : x = 0 := by omega
    subst this
    rw [st2_at]; rfl
theorem t_signAt {s p i : Nat} (hS : SS K A s) (hC : SC I s p) (hp : 3 ≤ p ∧ p ≤ 199) (hi : i < 2 * p) : f_X7_signAt (some s) (zn i) (K, I, J, A) = some (sS' p i, (K, I, J, A)) := by
  apply wp_get
  obtain ⟨s0, ⟨sa0, sa1⟩, ⟨sk1, sk2⟩, hs⟩ := hS
  obtain ⟨c1, c2⟩ := hC
  unfold f_X7_signAt sS'
  refine b_getA s0 sa0 (b_getIv s0 c1 ?_)
  by_cases h : p ≤ i
  · refine wp_ifp (ge_t (by omega)) (b_getIv s0 c1 ?_)
    rw [zn_sub h]
    refine b_eq (t_cellp sk1 (by omega) (by omega)) (wp_rt ⟨?_, rfl⟩)
    rw [c2 _ (by omega), Nat.mod_eq_sub_mod h, Nat.mod_eq_of_lt (by omega)]
  · refine wp_ifn (ge_f (by omega)) (b_eq (t_cellp sk1 (by omega) (by omega)) (wp_rt ⟨?_, rfl⟩))
    rw [c2 _ (by omega), Nat.mod_eq_of_lt (by omega)]
theorem sS_mod (p i : Nat) : sS' p (i % p) = sS' p i := by unfold sS'; rw [Nat.mod_mod]
theorem t_echoAt {s p r t : Nat} (hS : SS K A s) (hC : SC I s p) (hp : 3 ≤ p ∧ p ≤ 199) (hr : r < p) (ht : t ≤ p) : f_X7_echoAt (some s) (zn r) (zn t) (K, I, J, A) = some (eco p r t, (K, I, J, A)) := by
  apply wp_get
  have hS' := hS
  have hC' := hC
  obtain ⟨s0, ⟨sa0, sa1⟩, ⟨sk1, sk2⟩, hs⟩ := hS'
  obtain ⟨c1, c2⟩ := hC'
  unfold f_X7_echoAt f_X7_echoAt_l5
  refine pf2 (N := p - t) (fun i x => x = ecI p r t i) ?_ ?_ (k := 0) (by omega) (by unfold fuel; omega) rfl
  · rintro i x R hi rfl hR
    unfold f_X7_echoAt_b5
    have hm1 := Nat.mod_lt (r + i) (show p > 0 by omega)
    have hm2 := Nat.mod_lt (r + i + t) (show p > 0 by omega)
    refine b_getIv s0 c1 ?_
    rw [zn_add, zn_add, zn_add]
    refine wp_ifn (ge_f (by omega)) (b_getIv s0 c1 (b_eq (t_modn (zn_i64 (by omega)) (by omega) (by omega)) (b_ck s0 (b_eq (t_signAt hS hC hp (by omega)) (b_getIv s0 c1 (b_eq (t_modn (zn_i64 (by omega)) (by omega) (by omega)) (b_ck s0 (b_eq (t_signAt hS hC hp (by omega)) (b_nm (hR _ ?_))))))))))
    rw [sS_mod, sS_mod]; rfl
  · rintro x R rfl
    unfold f_X7_echoAt_b5
    refine b_getIv s0 c1 ?_
    rw [zn_add]
    exact wp_ifp (ge_t (by omega)) (wp_rt ⟨rfl, rfl⟩)
theorem t_noiseAt {s p r : Nat} (hS : SS K A s) (hC : SC I s p) (hp : 3 ≤ p ∧ p ≤ 199) (hr : r < p) : f_X7_noiseAt (some s) (zn r) (K, I, J, A) = some (noi p r, (K, I, J, A)) := by
  apply wp_get
  unfold f_X7_noiseAt f_X7_noiseAt_l5
  refine pf2 (N := p) (fun t x => 1 ≤ t ∧ x = nsI (eco p r) t) ?_ ?_ (k := 1) (by omega) (by unfold fuel; omega) ⟨by omega, rfl⟩
  · rintro t x R ht ⟨h1, rfl⟩ hR
    unfold f_X7_noiseAt_b5
    exact b_getIv hS.1 hC.1 (wp_ifn (ge_f (by omega)) (b_ck hS.1 (b_eq (t_echoAt hS hC hp hr (by omega)) (b_nm (b_nm (hR _ ⟨by omega, (nsI_s h1).symm⟩))))))
  · rintro x R ⟨h1, rfl⟩
    unfold f_X7_noiseAt_b5
    exact b_getIv hS.1 hC.1 (wp_ifp (ge_t (by omega)) (wp_rt ⟨rfl, rfl⟩))
theorem t_noiseOfEchoes {s p r : Nat} (hS : SS K A s) (hC : SC I s p) (hp : 3 ≤ p ∧ p ≤ 199) (hE : ∀ t, 1 ≤ t → t < p → I (s + 2) t = eco p r t) : f_X7_noiseOfEchoes (some s) (K, I, J, A) = some (noi p r, (K, I, J, A)) := by
  apply wp_get
  obtain ⟨s0, ⟨sa0, sa1⟩, ⟨sk1, sk2⟩, hs⟩ := hS
  unfold f_X7_noiseOfEchoes f_X7_noiseOfEchoes_l4
  refine pf2 (N := p) (fun t x => 1 ≤ t ∧ x = nsI (eco p r) t) ?_ ?_ (k := 1) (by omega) (by unfold fuel; omega) ⟨by omega, rfl⟩
  · rintro t x R ht ⟨h1, rfl⟩ hR
    unfold f_X7_noiseOfEchoes_b4
    refine b_getIv s0 hC.1 (wp_ifn (ge_f (by omega)) (b_getA s0 sa1 (b_eq (t_cellp sk2 (by omega) (by omega)) (b_nm (b_nm (hR _ ⟨by omega, ?_⟩))))))
    rw [hE t h1 ht]; exact (nsI_s h1).symm
  · rintro x R ⟨h1, rfl⟩
    unfold f_X7_noiseOfEchoes_b4
    exact b_getIv s0 hC.1 (wp_ifp (ge_t (by omega)) (wp_rt ⟨rfl, rfl⟩))
theorem SC.mv {I I' : Nat → Nat → Int32} {s p : Nat} (h : SC I s p) (hf : ∀ b, b ≠ s + 2 → I' b = I b) : SC I' s p := ⟨by rw [hf s (by omega)]; exact h.1, fun x hx => by rw [hf (s + 1) (by omega)]; exact h.2 x hx⟩
theorem t_passOn {Q : Unit → Hp → Prop} {s p r : Nat} (hS : SS K A s) (hC : SC I s p) (hp : 3 ≤ p ∧ p ≤ 199) (hr : r < p) (hE : ∀ t, 1 ≤ t → t < p → I (s + 2) t = eco p r t) (q : ∀ I', (∀ b, b ≠ s + 2 → I' b = I b) → (∀ t, 1 ≤ t → t < p → I' (s + 2) t = eco p (r + 1) t) → Q () (K, I', J, A)) : wp (f_X7_passOn (some s) (zn r)) Q (K, I, J, A) := by
  have hS' := hS
  obtain ⟨s0, ⟨sa0, sa1⟩, ⟨sk1, sk2⟩, hs⟩ := hS'
  unfold f_X7_passOn f_X7_passOn_l2
  refine for1 (N := p) (fun k I' J' => J' = J ∧ 1 ≤ k ∧ (∀ b, b ≠ s + 2 → I' b = I b) ∧ ∀ t, 1 ≤ t → t < p → I' (s + 2) t = if t < k then eco p (r + 1) t else eco p r t) ?_ ?_ (k := 1) (by omega) (by unfold fuel; omega) ⟨rfl, by omega, fun b _ => rfl, fun t h1 h2 => by rw [if_neg (by omega)]; exact hE t h1 h2⟩
  · rintro k I' J' R hk ⟨rfl, h1, hf, hv⟩ hR
    have hC' := hC.mv hf
    unfold f_X7_passOn_b2
    refine b_getIv s0 hC'.1 (wp_ifn (ge_f (by omega)) (b_ck s0 (b_eq (t_signAt hS hC' hp (by omega)) (b_getIv s0 hC'.1 (b_ck s0 ?_)))))
    rw [zn_add, zn_sub (by omega), zn_add]
    refine b_eq (t_signAt hS hC' hp (by omega)) (b_ck s0 (b_eq (t_signAt hS hC' hp (by omega)) (b_nm (b_getA s0 sa1 (b_getA s0 sa1 (b_eq (t_cellp sk2 (by omega) (by omega)) (b_eq (t_mark sk2 (by omega) (by omega) (by omega)) (hR _ _ ⟨rfl, by omega, fun b hb => ?_, fun t h2 h3 => ?_⟩))))))))
    · rw [st2_nb hb]; exact hf b hb
    · by_cases h : t = k
      · subst h
        rw [st2_at, hv t h2 h3, if_neg (by omega), if_pos (by omega), eco_next h2 h3]
      · rw [st2_nk h, hv t h2 h3]
        by_cases h4 : t < k
        · rw [if_pos h4, if_pos (by omega)]
        · rw [if_neg h4, if_neg (by omega)]
  · rintro I' J' R ⟨rfl, h1, hf, hv⟩
    unfold f_X7_passOn_b2
    exact b_getIv s0 (hC.mv hf).1 (wp_ifp (ge_t (by omega)) (wp_rt (q I' hf (fun t h2 h3 => by rw [hv t h2 h3, if_pos h3]))))
theorem while3 {α γ δ : Type} {ρ : Type} {Q : ρ → Hp → Prop} {b : (α → γ → δ → Mo ρ) → α → γ → δ → Mo ρ} (Inv : Nat → α → γ → δ → (Nat → Nat → Int32) → (Nat → Nat → Int64) → Prop)
    (step : ∀ m x y z I J R, Inv m x y z I J → (∀ m' x' y' z' I' J', m' < m → Inv m' x' y' z' I' J' → wp (R x' y' z') Q (K, I', J', A)) → wp (b R x y z) Q (K, I, J, A)) :
    ∀ (n m : Nat) (x : α) (y : γ) (z : δ) I J, m < n → Inv m x y z I J → wp (lq3 b n x y z) Q (K, I, J, A) := by
  intro n
  induction n with
  | zero => intro m x y z I J h; omega
  | succ n ih => exact fun m x y z I J h hi => step m x y z I J (lq3 b n) hi (fun m' x' y' z' I' J' hl hi' => ih m' x' y' z' I' J' (by omega) hi')
theorem t_leastNoisy {Q : Int32 → Hp → Prop} {s p : Nat} (hS : SS K A s) (hC : SC I s p) (hp : 3 ≤ p ∧ p ≤ 199) (q : ∀ I', (∀ b, b ≠ s + 2 → I' b = I b) → Q (zn (lwI p p).1) (K, I', J, A)) : wp (f_X7_leastNoisy (some s)) Q (K, I, J, A) := by
  have hS' := hS
  obtain ⟨s0, ⟨sa0, sa1⟩, ⟨sk1, sk2⟩, hs⟩ := hS'
  unfold f_X7_leastNoisy f_X7_leastNoisy_l2
  refine for1 (N := p) (fun k I' J' => J' = J ∧ 1 ≤ k ∧ (∀ b, b ≠ s + 2 → I' b = I b) ∧ ∀ t, 1 ≤ t → t < k → I' (s + 2) t = eco p 0 t) ?_ ?_ (k := 1) (by omega) (by unfold fuel; omega) ⟨rfl, by omega, fun b _ => rfl, fun t _ _ => by omega⟩
  · rintro k I' J' R hk ⟨rfl, h1, hf, hv⟩ hR
    have hC' := hC.mv hf
    unfold f_X7_leastNoisy_b2
    refine b_getIv s0 hC'.1 (wp_ifn (ge_f (by omega)) (b_getA s0 sa1 (b_ck s0 (b_eq (t_echoAt (r := 0) hS hC' hp (by omega) (by omega)) (b_eq (t_mark sk2 (by omega) (by omega) (by omega)) (hR _ _ ⟨rfl, by omega, fun b hb => ?_, fun t h2 h3 => ?_⟩))))))
    · rw [st2_nb hb]; exact hf b hb
    · by_cases h : t = k
      · subst h; exact st2_at
      · rw [st2_nk h]; exact hv t h2 (by omega)
  · rintro I1 J1 R ⟨rfl, h1, hf1, hv1⟩
    have hC1 := hC.mv hf1
    unfold f_X7_leastNoisy_b2
    refine b_getIv s0 hC1.1 (wp_ifp (ge_t (by omega)) (b_ck s0 (b_eq (t_noiseOfEchoes hS hC1 hp hv1) ?_)))
    unfold f_X7_leastNoisy_l40
    refine while3 (fun mm x y z I' J' => ∃ r, z = zn r ∧ 1 ≤ r ∧ r ≤ p ∧ mm = p - r ∧ J' = J1 ∧ x = (lwI p r).2 ∧ y = zn (lwI p r).1 ∧ (∀ b, b ≠ s + 2 → I' b = I b) ∧ ∀ t, 1 ≤ t → t < p → I' (s + 2) t = eco p (r - 1) t) ?_ fuel (p - 1) _ _ _ _ _ (by unfold fuel; omega) ⟨1, rfl, by omega, by omega, rfl, rfl, rfl, rfl, hf1, hv1⟩
    rintro mm x y z I' J' R2 ⟨r, rfl, h2, h3, rfl, rfl, rfl, rfl, hf, hv⟩ hR2
    have hC' := hC.mv hf
    unfold f_X7_leastNoisy_b40
    refine b_getIv s0 hC'.1 ?_
    by_cases he : r = p
    · subst he
      exact wp_ifp (ge_t (by omega)) (wp_rt (q I' hf))
    · refine wp_ifn (ge_f (by omega)) (b_ck s0 ?_)
      rw [zn_pred1 h2]
      refine wp_bd (t_passOn hS hC' hp (by omega) hv (fun I2 hf2 hv2 => b_ck s0 ?_))
      rw [show r - 1 + 1 = r by omega] at hv2
      have hC2 := hC'.mv hf2
      have fr2 : ∀ b, b ≠ s + 2 → I2 b = I b := fun b hb => (hf2 b hb).trans (hf b hb)
      refine b_eq (t_noiseOfEchoes hS hC2 hp hv2) ?_
      by_cases hlt : noi p r < (lwI p r).2
      · refine wp_ifn (fun q => i64_ge.mp q hlt) ?_
        rw [zn_succ]
        refine hR2 (p - (r + 1)) _ _ _ _ _ (by omega) ⟨r + 1, rfl, by omega, by omega, rfl, rfl, ?_, ?_, fr2, ?_⟩
        · rw [lwI_s h2, if_pos hlt]
        · rw [lwI_s h2, if_pos hlt]
        · intro t h4 h5
          rw [show r + 1 - 1 = r by omega]; exact hv2 t h4 h5
      · refine wp_ifp (i64_ge.mpr hlt) ?_
        rw [zn_succ]
        refine hR2 (p - (r + 1)) _ _ _ _ _ (by omega) ⟨r + 1, rfl, by omega, by omega, rfl, rfl, ?_, ?_, fr2, ?_⟩
        · rw [lwI_s h2, if_neg hlt]
        · rw [lwI_s h2, if_neg hlt]
        · intro t h4 h5
          rw [show r + 1 - 1 = r by omega]; exact hv2 t h4 h5
/-! the reference's -/
theorem t_rowOf {Q : Unit → Hp → Prop} {m f p n r : Nat} (hM : MS K A m) (hF : RFS K A f) (hC : RFC I J f p n) (hpn : pn p n) (hfm : f + 1 < m ∨ m + 10 < f) (hr : r < p) (q : ∀ I', (∀ b, b ≠ m + 6 → I' b = I b) → (∀ i, i < p → I' (m + 6) i = sS' p (r + i)) → Q () (K, I', J, A)) : wp (f_X13_rowOf (some m) (some f) (zn r)) Q (K, I, J, A) := by
  obtain ⟨m0, ⟨a5, a6, a7, a21, a22, a23, a24, a25, a26, a27⟩, ⟨k1, k2, k3, k4, k5, k6, k7, k8, k9, k10⟩, hm⟩ := hM
  obtain ⟨f0, ⟨fa4, fa5⟩, ⟨fk1, fk2⟩, hf0⟩ := hF
  have hr' := pn_rng hpn
  have hp0 : ¬ zn p = 0 := by rw [zn0 (by omega)]; omega
  unfold f_X13_rowOf f_X13_rowOf_l2
  refine for1 (N := p) (fun k I' J' => J' = J ∧ (∀ b, b ≠ m + 6 → I' b = I b) ∧ ∀ i, i < k → I' (m + 6) i = sS' p (r + i)) ?_ ?_ (k := 0) (by omega) (by unfold fuel; omega) ⟨rfl, fun b _ => rfl, fun i _ => by omega⟩
  · rintro k I' J' R hk ⟨rfl, hf, hv⟩ hR
    have hC' := hC.mvI (hf f (by omega)) (hf (f + 1) (by omega))
    obtain ⟨⟨c1, c2, c3, c4⟩, c5, c6⟩ := hC'
    have hmm := Nat.mod_lt (r + k) (show p > 0 by omega)
    have fin : ∀ v : Int32, v = sS' p (r + k) → wp (mBd (mStI (some (m + 6)) (zn k) v) (fun _ => R (zn k + 1))) Q (K, I', J', A) := by
      intro v hv'
      refine b_stI k6 (by omega) (by omega) (by omega) (hR _ _ ⟨rfl, fun b h1 => ?_, fun i hi => ?_⟩)
      · rw [st2_nb h1]; exact hf b h1
      · by_cases h : i = k
        · subst h; rw [st2_at, hv']
        · rw [st2_nk h]; exact hv i (by omega)
    unfold f_X13_rowOf_b2
    refine b_getIv f0 c1 (wp_ifn (ge_f (by omega)) (b_getA m0 a23 (b_getIv f0 c1 (wp_rq hp0 ?_))))
    rw [zn_add, irem_zn (by omega) (by omega)]
    refine wp_ifq (not_congr (zn0 (by omega))) ?_
    by_cases h0 : (r + k) % p = 0
    · exact wp_ifn (fun q => q h0) (fin 1 (by unfold sS' sgv; rw [if_pos h0]))
    · refine wp_ifp h0 (b_getA f0 fa4 (b_getIv f0 c1 (wp_rq hp0 ?_)))
      rw [irem_zn (by omega) (by omega)]
      refine b_ldI fk1 (by omega) (by omega) ?_
      rw [c5 _ (by omega) hmm]
      have hl := lg_lt hpn.1 (show 1 ≤ (r + k) % p by omega) hmm
      rw [irem2' (by omega)]
      refine wp_ifq (not_congr (zn0 (by omega))) ?_
      by_cases h : lg p ((r + k) % p) % 2 = 0
      · exact wp_ifn (fun q => q h) (fin 1 (by unfold sS' sgv; rw [if_neg h0, if_pos h]))
      · exact wp_ifp h (fin (-1) (by unfold sS' sgv; rw [if_neg h0, if_neg h]))
  · rintro I' J' R ⟨rfl, hf, hv⟩
    have hC' := hC.mvI (hf f (by omega)) (hf (f + 1) (by omega))
    unfold f_X13_rowOf_b2
    exact b_getIv f0 hC'.1.1 (wp_ifp (ge_t (by omega)) (wp_rt (q I' hf hv)))
theorem t_echoOf {m f p n r t : Nat} (hM : MS K A m) (hF : RFS K A f) (hC : RFC I J f p n) (hpn : pn p n) (ht : t ≤ p) (hs : ∀ i, i < p → I (m + 6) i = sS' p (r + i)) : f_X13_echoOf (some m) (some f) (zn t) (K, I, J, A) = some (eco p r t, (K, I, J, A)) := by
  apply wp_get
  obtain ⟨m0, ⟨a5, a6, a7, a21, a22, a23, a24, a25, a26, a27⟩, ⟨k1, k2, k3, k4, k5, k6, k7, k8, k9, k10⟩, hm⟩ := hM
  have hr' := pn_rng hpn
  unfold f_X13_echoOf f_X13_echoOf_l5
  refine pf2 (N := p - t) (fun i x => x = ecI p r t i) ?_ ?_ (k := 0) (by omega) (by unfold fuel; omega) rfl
  · rintro i x R hi rfl hR
    unfold f_X13_echoOf_b5
    refine b_getIv hF.1 hC.1.1 ?_
    rw [zn_add]
    refine wp_ifn (ge_f (by omega)) (b_getA m0 a23 (b_ldI k6 (by omega) (by omega) (b_getA m0 a23 (b_ldI k6 (by omega) (by omega) (b_nm (hR _ ?_))))))
    rw [hs i (by omega), hs (i + t) (by omega), ← Nat.add_assoc]; rfl
  · rintro x R rfl
    unfold f_X13_echoOf_b5
    refine b_getIv hF.1 hC.1.1 ?_
    rw [zn_add]
    exact wp_ifp (ge_t (by omega)) (wp_rt ⟨rfl, rfl⟩)
theorem t_noiseOf {Q : Int64 → Hp → Prop} {m f p n r : Nat} (hM : MS K A m) (hF : RFS K A f) (hC : RFC I J f p n) (hpn : pn p n) (hfm : f + 1 < m ∨ m + 10 < f) (hr : r < p) (q : ∀ I', (∀ b, b ≠ m + 6 → I' b = I b) → Q (noi p r) (K, I', J, A)) : wp (f_X13_noiseOf (some m) (some f) (zn r)) Q (K, I, J, A) := by
  have hr' := pn_rng hpn
  unfold f_X13_noiseOf
  refine b_ck hM.1 (wp_bd (t_rowOf hM hF hC hpn hfm hr (fun I' hf hv => ?_)))
  have hC' := hC.mvI (hf f (by omega)) (hf (f + 1) (by omega))
  unfold f_X13_noiseOf_l11
  refine pf2 (N := p) (fun t x => 1 ≤ t ∧ x = nsI (eco p r) t) ?_ ?_ (k := 1) (by omega) (by unfold fuel; omega) ⟨by omega, rfl⟩
  · rintro t x R ht ⟨h1, rfl⟩ hR
    unfold f_X13_noiseOf_b11
    exact b_getIv hF.1 hC'.1.1 (wp_ifn (ge_f (by omega)) (b_ck hM.1 (b_eq (t_echoOf hM hF hC' hpn (by omega) hv) (b_ck hM.1 (b_eq (t_echoOf hM hF hC' hpn (by omega) hv) (b_nm (hR _ ⟨by omega, (nsI_s h1).symm⟩)))))))
  · rintro x R ⟨h1, rfl⟩
    unfold f_X13_noiseOf_b11
    exact b_getIv hF.1 hC'.1.1 (wp_ifp (ge_t (by omega)) (wp_rt (q I' hf)))
theorem t_lowestR {Q : Int32 → Hp → Prop} {m b f p n fi : Nat} (hM : MS K A m) (hB : BS K A b) (hmb : A m 3 = some b) (hfi : fi < 4) (hfo : A (b + 1) fi = some f) (hF : RFS K A f) (hC : RFC I J f p n) (hpn : pn p n) (hfm : f + 1 < m ∨ m + 10 < f)
    (q : ∀ I', (∀ b, b ≠ m + 6 → I' b = I b) → wp (mBd (mCk 11 (some m) (f_X13_good (some m) (zn (lwI p p).1))) (fun r => mRt r)) Q (K, I', J, A)) : wp (f_X13_lowest_l39 (some m) (zn fi) 0 (noi p 0) 1) Q (K, I, J, A) := by
  have hr' := pn_rng hpn
  obtain ⟨b0, ⟨ba4, ba5, ba6, ba7, ba8, ba9, ba10, ba11, ba12, ba13, ba14⟩, ⟨bk1, bk2, bk3, bk4, bk5, bk6, bk7, bk8, bk9, bk10, bk11⟩, hb⟩ := hB
  unfold f_X13_lowest_l39
  refine while3 (fun mm x y z I' J' => ∃ r, z = zn r ∧ 1 ≤ r ∧ r ≤ p ∧ mm = p - r ∧ J' = J ∧ x = zn (lwI p r).1 ∧ y = (lwI p r).2 ∧ (∀ b, b ≠ m + 6 → I' b = I b)) ?_ fuel (p - 1) _ _ _ _ _ (by unfold fuel; omega) ⟨1, rfl, by omega, by omega, rfl, rfl, rfl, rfl, fun b _ => rfl⟩
  rintro mm x y z I' J' R ⟨r, rfl, h2, h3, rfl, rfl, rfl, rfl, hf⟩ hR
  have hC' := hC.mvI (hf f (by omega)) (hf (f + 1) (by omega))
  unfold f_X13_lowest_b39
  refine b_getA hM.1 hmb (b_getA b0 ba4 (b_ldA bk1 (by decide) hfi (by omega) ?_))
  rw [hfo]
  refine b_getIv hF.1 hC'.1.1 ?_
  by_cases he : r = p
  · subst he
    exact wp_ifp (ge_t (by omega)) (q I' hf)
  · refine wp_ifn (ge_f (by omega)) (b_getA hM.1 hmb (b_getA b0 ba4 (b_ldA bk1 (by decide) hfi (by omega) ?_)))
    rw [hfo]
    refine b_ck hM.1 (wp_bd (t_noiseOf hM hF hC' hpn hfm (by omega) (fun I2 hf2 => ?_)))
    have fr2 : ∀ b, b ≠ m + 6 → I2 b = I b := fun b hb => (hf2 b hb).trans (hf b hb)
    by_cases hlt : noi p r < (lwI p r).2
    · refine wp_ifp hlt ?_
      rw [zn_succ]
      refine hR (p - (r + 1)) _ _ _ _ _ (by omega) ⟨r + 1, rfl, by omega, by omega, rfl, rfl, ?_, ?_, fr2⟩
      · rw [lwI_s h2, if_pos hlt]
      · rw [lwI_s h2, if_pos hlt]
    · refine wp_ifn hlt ?_
      rw [zn_succ]
      refine hR (p - (r + 1)) _ _ _ _ _ (by omega) ⟨r + 1, rfl, by omega, by omega, rfl, rfl, ?_, ?_, fr2⟩
      · rw [lwI_s h2, if_neg hlt]
      · rw [lwI_s h2, if_neg hlt]
end
