/-! ===== the reference's field: its making ===== -/
/-- a number's sign of Moebius, as the loop goes -/
def sgS : Nat → Nat → Int → Nat → Int
  | 0, _, s, _ => s
  | m + 1, left, s, q => if left % q = 0 then (if left / q % q = 0 then 0 else sgS m (left / q) (-s) (q + 1)) else sgS m left s (q + 1)
def msg (v : Nat) : Int := sgS (v - 1) v 1 2
/-- one more factor (x^d - 1), k going down -/
def gU (d : Nat) (w : Nat → Int64) : Nat → Nat → Int64
  | 0 => w
  | j + 1 => setf (gU d w j) (12 - j) ((if d ≤ 12 - j then gU d w j (12 - j - d) else 0) - gU d w j (12 - j))
/-- one factor less, k going up -/
def gDd (d : Nat) (w : Nat → Int64) : Nat → Nat → Int64
  | 0 => w
  | j + 1 => setf (gDd d w j) j ((if d ≤ j then gDd d w j (j - d) else 0) - gDd d w j j)
def layD (n : Nat) (up : Int) (w : Nat → Int64) : Nat → Nat → Int64
  | 0 => w
  | i + 1 => if n % (i + 1) = 0 ∧ msg (n / (i + 1)) = up then (if up = 1 then gU (i + 1) (layD n up w i) 13 else gDd (i + 1) (layD n up w i) 13) else layD n up w i
def lay0 : Nat → Int64 := setf (fun _ => 0) 0 1
def layf (n : Nat) : Nat → Int64 := layD n (-1) (layD n 1 lay0 n) n
theorem layf_lst : ∀ n, n < 13 → 2 ≤ n → ∀ k, k ≤ phi n → layf n k = lst n k := by decide +kernel
def cg (n : Nat) : Nat → Nat
  | 0 => 0
  | t + 1 => cg n t + (if Nat.gcd n (t + 1) = 1 then 1 else 0)
theorem cg_phi : ∀ n, n < 13 → 2 ≤ n → cg n n = phi n := by decide +kernel
theorem cg_le (n : Nat) : ∀ t, cg n t ≤ t := by
  intro t
  induction t with
  | zero => exact Nat.le_refl 0
  | succ t ih => unfold cg; split <;> omega
theorem zn_div {a b : Nat} (h1 : a < 2147483648) (h2 : b < 2147483648) : zn a / zn b = zn (a / b) := by
  rw [zn_zi, zn_zi, zn_zi]
  unfold zi
  rw [← Int32.ofInt_tdiv]
  · congr 1
  all_goals first | (show _ ≤ _; decide) | (simp only [Int32.toInt_minValue, Int32.toInt_maxValue]; omega)
section
variable {β : Type} {kw : Nat → Int64} {K : List (Nat × Nat)} {I I' : Nat → Nat → Int32} {J J' : Nat → Nat → Int64} {A : Nat → Nat → Option Nat} {w : WD}
theorem t_sgL {x0 : Nat} {h : Hp} (hx0 : x0 ≤ 12) : ∀ m left s q n, q + m = x0 + 1 → 2 ≤ q → left ≤ 12 → (-1 ≤ s ∧ s ≤ 1) → m < n → wp (lq3 (f_X12_sign_b6 (zn x0)) n (zn left) (zi s) (zn q)) (fun r h' => r = zi (sgS m left s q) ∧ h' = h) h := by
  intro m
  induction m with
  | zero =>
    intro left s q n h1 h2 h3 h4 h5
    obtain ⟨n, rfl⟩ : ∃ k, n = k + 1 := ⟨n - 1, by omega⟩
    show wp (f_X12_sign_b6 (zn x0) _ (zn left) (zi s) (zn q)) _ _
    unfold f_X12_sign_b6
    exact wp_ifp (gt_t (by omega)) (wp_rt ⟨rfl, rfl⟩)
  | succ m ih =>
    intro left s q n h1 h2 h3 h4 h5
    obtain ⟨n, rfl⟩ : ∃ k, n = k + 1 := ⟨n - 1, by omega⟩
    show wp (f_X12_sign_b6 (zn x0) _ (zn left) (zi s) (zn q)) _ _
    unfold f_X12_sign_b6
    have hq0 : ¬ zn q = 0 := by rw [zn0 (by omega)]; omega
    refine wp_ifn (gt_f (by omega)) (wp_rq hq0 ?_)
    have hlt : left % q < 2147483648 := Nat.lt_of_lt_of_le (Nat.mod_lt _ (by omega)) (by omega)
    have hlt2 : left / q % q < 2147483648 := Nat.lt_of_lt_of_le (Nat.mod_lt _ (by omega)) (by omega)
    have hdv : left / q ≤ left := Nat.div_le_self _ _
    rw [irem_zn (by omega) (by omega)]
    have eq : sgS (m + 1) left s q = if left % q = 0 then (if left / q % q = 0 then 0 else sgS m (left / q) (-s) (q + 1)) else sgS m left s (q + 1) := rfl
    refine wp_ifq (zn0 hlt) ?_
    by_cases h6 : left % q = 0
    · rw [if_pos h6] at eq
      refine wp_ifp h6 (wp_rq hq0 (b_nm (wp_rq hq0 ?_)))
      rw [zn_div (by omega) (by omega), irem_zn (by omega) (by omega)]
      refine wp_ifq (not_congr (zn0 hlt2)) ?_
      by_cases h7 : left / q % q = 0
      · rw [if_pos h7] at eq
        rw [eq]
        exact wp_ifn (fun q => q h7) (wp_rt ⟨rfl, rfl⟩)
      · rw [if_neg h7] at eq
        rw [eq]
        refine wp_ifp h7 (b_nm ?_)
        rw [zi_neg, zn_succ]
        exact ih _ _ _ _ (by omega) (by omega) (by omega) (by omega) (by omega)
    · rw [if_neg h6] at eq
      rw [eq]
      refine wp_ifn h6 ?_
      rw [zn_succ]
      exact ih _ _ _ _ (by omega) (by omega) (by omega) (by omega) (by omega)
theorem t_sg {v : Nat} {h : Hp} (h1 : 1 ≤ v) (h2 : v ≤ 12) : f_X12_sign (zn v) h = some (zi (msg v), h) := by
  apply wp_get'
  unfold f_X12_sign f_X12_sign_l6
  exact t_sgL h2 (v - 1) v 1 2 fuel (by omega) (by omega) h2 (by omega) (by unfold fuel; omega)
theorem sg_rng : ∀ v, v < 13 → msg v = 1 ∨ msg v = -1 ∨ msg v = 0 := by decide
theorem t_layU {k9 k16 : Int32 → Mo Unit} {Q : Unit → Hp → Prop} {f d : Nat} {w : Nat → Int64} (hF : RFS K A f) (hd : 1 ≤ d ∧ d ≤ 12) (hw : ∀ k, k < 13 → J (f + 2) k = w k)
    (q : ∀ J', (∀ b, b ≠ f + 2 → J' b = J b) → (∀ k, k < 13 → J' (f + 2) k = gU d w 13 k) → wp (k16 (zn (d + 1))) Q (K, I, J', A)) : wp (f_X12_lays_l57 k9 k16 (some f) 1 (zn d) 12) Q (K, I, J, A) := by
  obtain ⟨f0, ⟨fa4, fa5⟩, ⟨fk1, fk2⟩, hf⟩ := hF
  unfold f_X12_lays_l57
  refine while1 (fun m y I' J' => ∃ j : Nat, j ≤ 13 ∧ y = zi (12 - (j : Int)) ∧ m = 13 - j ∧ I' = I ∧ (∀ b, b ≠ f + 2 → J' b = J b) ∧ ∀ k, k < 13 → J' (f + 2) k = gU d w j k) ?_ fuel 13 _ _ _ (by unfold fuel; omega) ⟨0, by omega, by decide, rfl, rfl, fun _ _ => rfl, hw⟩
  rintro m y I' J' R ⟨j, hj, rfl, rfl, rfl, hf', hv⟩ hR
  unfold f_X12_lays_b57
  by_cases he : j = 13
  · subst he
    refine wp_ifp (ilt_t (b := 0) (by omega)) ?_
    rw [zn_succ]
    exact q J' hf' hv
  · refine wp_ifn (ilt_f (b := 0) (by omega)) (b_getA f0 fa5 ?_)
    have e : zi (12 - (j : Int)) = zn (12 - j) := by rw [zn_zi]; congr 1; omega
    rw [e]
    have step : ∀ s0 : Int64, s0 = (if d ≤ 12 - j then gU d w j (12 - j - d) else 0) → wp (f_X12_lays_j83 k9 k16 R (some f) 1 (zn d) (zn (12 - j)) s0 (zn (12 - j)) (some (f + 2))) Q (K, I', J', A) := by
      intro s0 hs
      unfold f_X12_lays_j83
      refine b_getA f0 fa5 (b_ldJ fk2 (by omega) (by omega) (b_stJ fk2 (by omega) (by omega) (by omega) ?_))
      have e2 : zn (12 - j) + (-1) = zi (12 - ((j + 1 : Nat) : Int)) := by rw [zn_predi]; congr 1; omega
      rw [e2]
      refine hR (13 - (j + 1)) _ _ _ (by omega) ⟨j + 1, by omega, rfl, rfl, rfl, fun b hb => by rw [st2_nb hb]; exact hf' b hb, fun k hk => ?_⟩
      unfold gU
      by_cases hkj : k = 12 - j
      · subst hkj; rw [st2_at, setf_at, hs, hv _ (by omega)]
      · rw [st2_nk hkj, setf_ne hkj]; exact hv k hk
    by_cases hlt : 12 - j < d
    · exact wp_ifp (lt_t (by omega)) (step 0 (by rw [if_neg (by omega)]))
    · refine wp_ifn (lt_f (by omega)) (b_getA f0 fa5 ?_)
      rw [zn_sub (by omega)]
      refine b_ldJ fk2 (by omega) (by omega) (step _ ?_)
      rw [if_pos (by omega)]; exact hv _ (by omega)
theorem t_layL {k9 k16 : Int32 → Mo Unit} {Q : Unit → Hp → Prop} {x1 : Int32} {f d : Nat} {w : Nat → Int64} (hF : RFS K A f) (hd : 1 ≤ d ∧ d ≤ 12) (hw : ∀ k, k < 13 → J (f + 2) k = w k)
    (q : ∀ J', (∀ b, b ≠ f + 2 → J' b = J b) → (∀ k, k < 13 → J' (f + 2) k = gDd d w 13 k) → wp (k16 (zn (d + 1))) Q (K, I, J', A)) : wp (f_X12_lays_l102 k9 k16 (some f) x1 (zn d) 0) Q (K, I, J, A) := by
  obtain ⟨f0, ⟨fa4, fa5⟩, ⟨fk1, fk2⟩, hf⟩ := hF
  unfold f_X12_lays_l102
  refine for1 (N := 13) (fun j I' J' => I' = I ∧ (∀ b, b ≠ f + 2 → J' b = J b) ∧ ∀ k, k < 13 → J' (f + 2) k = gDd d w j k) ?_ ?_ (k := 0) (by omega) (by unfold fuel; omega) ⟨rfl, fun _ _ => rfl, hw⟩
  · rintro j I' J' R hj ⟨rfl, hf', hv⟩ hR
    unfold f_X12_lays_b102
    refine wp_ifn (gt_f (b := 12) (by omega)) (b_getA f0 fa5 ?_)
    have step : ∀ s0 : Int64, s0 = (if d ≤ j then gDd d w j (j - d) else 0) → wp (f_X12_lays_j130 k9 k16 R (some f) x1 (zn d) (zn j) s0 (zn j) (some (f + 2))) Q (K, I', J', A) := by
      intro s0 hs
      unfold f_X12_lays_j130
      refine b_getA f0 fa5 (b_ldJ fk2 (by omega) (by omega) (b_stJ fk2 (by omega) (by omega) (by omega) ?_))
      refine hR _ _ ⟨rfl, fun b hb => by rw [st2_nb hb]; exact hf' b hb, fun k hk => ?_⟩
      unfold gDd
      by_cases hkj : k = j
      · subst hkj; rw [st2_at, setf_at, hs, hv _ (by omega)]
      · rw [st2_nk hkj, setf_ne hkj]; exact hv k hk
    by_cases hlt : j < d
    · exact wp_ifp (lt_t (by omega)) (step 0 (by rw [if_neg (by omega)]))
    · refine wp_ifn (lt_f (by omega)) (b_getA f0 fa5 ?_)
      rw [zn_sub (by omega)]
      refine b_ldJ fk2 (by omega) (by omega) (step _ ?_)
      rw [if_pos (by omega)]; exact hv _ (by omega)
  · rintro I' J' R ⟨rfl, hf', hv⟩
    unfold f_X12_lays_b102
    refine wp_ifp (gt_t (b := 12) (by omega)) ?_
    rw [zn_succ]
    exact q J' hf' hv
theorem t_layD {k9 : Int32 → Mo Unit} {Q : Unit → Hp → Prop} {f n : Nat} {up : Int} {w : Nat → Int64} (hF : RFS K A f) (h1 : I f 1 = zn n) (hn : 2 ≤ n ∧ n ≤ 12) (hup : up = 1 ∨ up = -1) (hw : ∀ k, k < 13 → J (f + 2) k = w k)
    (q : ∀ J', (∀ b, b ≠ f + 2 → J' b = J b) → (∀ k, k < 13 → J' (f + 2) k = layD n up w n k) → wp (k9 (zi (up - 2))) Q (K, I, J', A)) : wp (f_X12_lays_l16 k9 (some f) (zi up) 1) Q (K, I, J, A) := by
  have f0 := hF.1
  unfold f_X12_lays_l16
  refine for1 (N := n + 1) (fun d I' J' => 1 ≤ d ∧ I' = I ∧ (∀ b, b ≠ f + 2 → J' b = J b) ∧ ∀ k, k < 13 → J' (f + 2) k = layD n up w (d - 1) k) ?_ ?_ (k := 1) (by omega) (by unfold fuel; omega) ⟨by omega, rfl, fun _ _ => rfl, hw⟩
  · rintro d I' J' R hd ⟨hd1, rfl, hf', hv⟩ hR
    unfold f_X12_lays_b16
    have hd0 : ¬ zn d = 0 := by rw [zn0 (by omega)]; omega
    refine b_getIv f0 h1 (wp_ifn (gt_f (by omega)) (b_getIv f0 h1 (wp_rq hd0 ?_)))
    rw [irem_zn (by omega) (by omega)]
    have hlt : n % d < 2147483648 := Nat.lt_of_lt_of_le (Nat.mod_lt _ (by omega)) (by omega)
    have eq : layD n up w d = if n % d = 0 ∧ msg (n / d) = up then (if up = 1 then gU d (layD n up w (d - 1)) 13 else gDd d (layD n up w (d - 1)) 13) else layD n up w (d - 1) := by
      obtain ⟨e, rfl⟩ : ∃ e, d = e + 1 := ⟨d - 1, by omega⟩
      rfl
    refine wp_ifq (not_congr (zn0 hlt)) ?_
    by_cases h2 : n % d = 0
    · have hdv : n / d ≤ n := Nat.div_le_self _ _
      have hdv1 : 1 ≤ n / d := Nat.div_pos (by omega) (by omega)
      refine wp_ifn (fun q => q h2) (b_getIv f0 h1 (wp_rq hd0 ?_))
      rw [zn_div (by omega) (by omega)]
      refine b_eq (t_sg hdv1 (by omega)) ?_
      have hsg := sg_rng (n / d) (by omega)
      refine wp_ifq (zi_inj (by omega) (by omega) (by omega) (by omega)) ?_
      by_cases h3 : msg (n / d) = up
      · rw [if_pos ⟨h2, h3⟩] at eq
        refine wp_ifp h3 ?_
        rcases hup with rfl | rfl
        · rw [if_pos rfl] at eq
          refine wp_ifn (by decide) (t_layU hF (by omega) hv (fun J2 hf2 hv2 => ?_))
          rw [← zn_succ]
          refine hR _ _ ⟨by omega, rfl, fun b hb => (hf2 b hb).trans (hf' b hb), fun k hk => ?_⟩
          rw [hv2 k hk, Nat.add_sub_cancel, eq]
        · rw [if_neg (by decide)] at eq
          refine wp_ifp (by decide) (t_layL hF (by omega) hv (fun J2 hf2 hv2 => ?_))
          rw [← zn_succ]
          refine hR _ _ ⟨by omega, rfl, fun b hb => (hf2 b hb).trans (hf' b hb), fun k hk => ?_⟩
          rw [hv2 k hk, Nat.add_sub_cancel, eq]
      · rw [if_neg (fun q => h3 q.2)] at eq
        refine wp_ifn h3 (hR _ _ ⟨by omega, rfl, hf', fun k hk => ?_⟩)
        rw [hv k hk, Nat.add_sub_cancel, eq]
    · rw [if_neg (fun q => h2 q.1)] at eq
      refine wp_ifp h2 (hR _ _ ⟨by omega, rfl, hf', fun k hk => ?_⟩)
      rw [hv k hk, Nat.add_sub_cancel, eq]
  · rintro I' J' R ⟨hd1, rfl, hf', hv⟩
    unfold f_X12_lays_b16
    refine b_getIv f0 h1 (wp_ifp (gt_t (by omega)) ?_)
    rw [z_m2, zi_add]
    exact q J' hf' hv
theorem t_laysF {Q : Unit → Hp → Prop} {f n : Nat} (hF : RFS K A f) (h1 : I f 1 = zn n) (hn : 2 ≤ n ∧ n ≤ 12) (hw : ∀ k, J (f + 2) k = 0)
    (q : ∀ J', (∀ b, b ≠ f + 2 → J' b = J b) → (∀ k, k ≤ phi n → J' (f + 2) k = lst n k) → Q () (K, I, J', A)) : wp (f_X12_lays (some f)) Q (K, I, J, A) := by
  have hF' := hF
  obtain ⟨f0, ⟨fa4, fa5⟩, ⟨fk1, fk2⟩, hf⟩ := hF'
  unfold f_X12_lays f_X12_lays_l9
  refine b_getA f0 fa5 (b_stJ (j := 0) fk2 (by omega) (by omega) (by omega) ?_)
  refine while1 (fun m y I' J' => I' = I ∧ (∀ b, b ≠ f + 2 → J' b = J b) ∧ ((m = 2 ∧ y = zi 1 ∧ ∀ k, k < 13 → J' (f + 2) k = lay0 k) ∨ (m = 1 ∧ y = zi (-1) ∧ ∀ k, k < 13 → J' (f + 2) k = layD n 1 lay0 n k) ∨ (m = 0 ∧ y = zi (-3) ∧ ∀ k, k < 13 → J' (f + 2) k = layf n k))) ?_ fuel 2 _ _ _ (by unfold fuel; omega) ⟨rfl, fun b hb => st2_nb hb, Or.inl ⟨rfl, rfl, fun k hk => ?_⟩⟩
  · rintro m y I' J' R ⟨rfl, hf', h⟩ hR
    unfold f_X12_lays_b9
    rcases h with ⟨rfl, rfl, hv⟩ | ⟨rfl, rfl, hv⟩ | ⟨rfl, rfl, hv⟩
    · refine wp_ifn (by decide) (t_layD hF h1 hn (Or.inl rfl) hv (fun J2 hf2 hv2 => hR 1 _ _ _ (by omega) ⟨rfl, fun b hb => (hf2 b hb).trans (hf' b hb), Or.inr (Or.inl ⟨rfl, rfl, hv2⟩)⟩))
    · refine wp_ifn (by decide) (t_layD hF h1 hn (Or.inr rfl) hv (fun J2 hf2 hv2 => hR 0 _ _ _ (by omega) ⟨rfl, fun b hb => (hf2 b hb).trans (hf' b hb), Or.inr (Or.inr ⟨rfl, rfl, hv2⟩)⟩))
    · refine wp_ifp (by decide) (wp_rt (q J' hf' (fun k hk => ?_)))
      have := phi_rng hn.1 hn.2
      rw [hv k (by omega)]
      exact layf_lst n (by omega) hn.1 k hk
  · unfold lay0
    by_cases h0 : k = 0
    · subst h0; rw [st2_at, setf_at]
    · rw [st2_nk h0, setf_ne h0]; exact hw k
theorem b_new {G : Option Nat → Mo β} {Q : β → Hp → Prop} {c : Nat} (hc : c < 12) (w : wp (G (some K.length)) Q (K ++ [(0, c)], st1 I K.length (fun _ => 0), st1 J K.length (fun _ => 0), st1 A K.length (fun _ => none))) : wp (mBd (mNew c) G) Q (K, I, J, A) := b_eq (if_pos hc) w
theorem b_newA {G : Option Nat → Mo β} {Q : β → Hp → Prop} {t n : Nat} (ht : 1 ≤ t ∧ t < 8 ∧ ¬ t = 6) (hn : n ≤ 10000) (w : wp (G (some K.length)) Q (K ++ [(t, n)], st1 I K.length (fun _ => 0), st1 J K.length (fun _ => 0), st1 A K.length (fun _ => none))) : wp (mBd (mNewA t (zn n)) G) Q (K, I, J, A) := by
  refine b_eq (r := some K.length) (h' := (K ++ [(t, n)], st1 I K.length (fun _ => 0), st1 J K.length (fun _ => 0), st1 A K.length (fun _ => none))) ?_ w
  unfold mNewA
  rw [if_pos ⟨ht, zn_nneg (by omega), by rw [zn_clamp (by omega)]; exact hn⟩, zn_clamp (by omega)]
  rfl
theorem st1_at {α : Type} {f : Nat → α} {a : Nat} {x : α} : st1 f a x a = x := if_pos rfl
theorem st1_nq {α : Type} {f : Nat → α} {a b : Nat} {x : α} (h : b ≠ a) : st1 f a x b = f b := if_neg h
theorem t_isRoot {f p g : Nat} (hk : kk K f = (0, 10)) (h0 : I f 0 = zn p) (hp : p ∈ pl) (hg : 1 ≤ g ∧ g < p) : f_X12_isRoot (some f) (zn g) (K, I, J, A) = some (zn (if isRt p g then 1 else 0), (K, I, J, A)) := by
  apply wp_get
  have hr := pl_rng p hp
  have hp0 : ¬ zn p = 0 := by rw [zn0 (by omega)]; omega
  unfold f_X12_isRoot f_X12_isRoot_l9
  refine b_getIv hk h0 (wp_rq hp0 (b_nm ?_))
  rw [irem_zn (by omega) (by omega)]
  refine pf2 (N := p - 1) (fun e x => 1 ≤ e ∧ x = zn (g ^ e % p) ∧ ∀ e', 1 ≤ e' → e' < e → ¬ g ^ e' % p = 1) ?_ ?_ (k := 1) (by omega) (by unfold fuel; omega) ⟨by omega, by rw [Nat.pow_one], fun e' h1 h2 => by omega⟩
  · rintro e x R he ⟨h1, rfl, hno⟩ hR
    have hlt := Nat.mod_lt (g ^ e) (show p > 0 by omega)
    unfold f_X12_isRoot_b9
    refine b_getIv hk h0 ?_
    rw [zn_pred1 (by omega)]
    refine wp_ifn (ge_f (by omega)) (wp_ifq (not_congr (zn1 (by omega))) ?_)
    by_cases h2 : g ^ e % p = 1
    · refine wp_ifn (fun q => q h2) (wp_rt ⟨?_, rfl⟩)
      rw [show isRt p g = false from by rw [← Bool.not_eq_true]; exact fun q => isRt_t q h1 he h2]
      rfl
    · refine wp_ifp h2 (b_getIv hk h0 (wp_rq hp0 (b_nm ?_)))
      have hm : g ^ e % p * g ≤ 199 * 199 := Nat.mul_le_mul (by omega) (by omega)
      rw [zn_mul, irem_zn (by omega) (by omega), pow_step]
      refine hR _ ⟨by omega, rfl, fun e' h3 h4 => ?_⟩
      by_cases h5 : e' = e
      · subst h5; exact h2
      · exact hno e' h3 (by omega)
  · rintro x R ⟨h1, rfl, hno⟩
    unfold f_X12_isRoot_b9
    refine b_getIv hk h0 ?_
    rw [zn_pred1 (by omega)]
    refine wp_ifp (ge_t (by omega)) (wp_rt ⟨?_, rfl⟩)
    rw [isRt_of hno]; rfl
theorem t_count {Q : Unit → Hp → Prop} {f n : Nat} (hF : RFS K A f) (h1 : I f 1 = zn n) (hn : 2 ≤ n ∧ n ≤ 12) (hw : ∀ k, J (f + 2) k = 0)
    (q : ∀ J', (∀ b, b ≠ f + 2 → J' b = J b) → (∀ k, k ≤ phi n → J' (f + 2) k = lst n k) → Q () (K, st2 I f 3 (zn (phi n)), J', A)) : wp (f_X12_init_l95 (some f) (zn n) 0 1) Q (K, I, J, A) := by
  unfold f_X12_init_l95
  refine pf2 (N := n + 1) (fun t x => 1 ≤ t ∧ x = zn (cg n (t - 1))) ?_ ?_ (k := 1) (by omega) (by unfold fuel; omega) ⟨by omega, rfl⟩
  · rintro t x R ht ⟨h2, rfl⟩ hR
    unfold f_X12_init_b95
    refine wp_ifn (gt_f (by omega)) (b_eq (t_divisor (by omega) (by omega)) ?_)
    have hg : Nat.gcd n t ≤ n := Nat.le_of_dvd (by omega) (Nat.gcd_dvd_left _ _)
    have eq : cg n t = cg n (t - 1) + (if Nat.gcd n t = 1 then 1 else 0) := by
      obtain ⟨e, rfl⟩ : ∃ e, t = e + 1 := ⟨t - 1, by omega⟩
      rfl
    refine wp_ifq (not_congr (zn1 (by omega))) ?_
    by_cases h3 : Nat.gcd n t = 1
    · rw [if_pos h3] at eq
      refine wp_ifn (fun q => q h3) (b_nm (hR _ ⟨by omega, ?_⟩))
      rw [Nat.add_sub_cancel, eq]
      exact zn_succ _
    · rw [if_neg h3] at eq
      refine wp_ifp h3 (b_nm (hR _ ⟨by omega, ?_⟩))
      rw [Nat.add_sub_cancel, eq]
      exact zn_add _ 0
  · rintro x R ⟨h2, rfl⟩
    unfold f_X12_init_b95
    rw [Nat.add_sub_cancel, cg_phi n (by omega) hn.1]
    refine wp_ifp (gt_t (by omega)) (b_putI hF.1 hF.2.2.2 (b_ck hF.1 (wp_bd (t_laysF hF ((st2_nk (by decide)).trans h1) hn hw (fun J' hf hv => wp_rt (q J' hf hv))))))
theorem t_fieldInit {Q : Unit → Hp → Prop} {f p n : Nat} (hF : RFS K A f) (hpn : pn p n) (h0 : I f 0 = zn p) (h1 : I f 1 = zn n) (hw : ∀ k, J (f + 2) k = 0)
    (q : ∀ I' J', (∀ b, b ≠ f → b ≠ f + 1 → I' b = I b) → (∀ b, b ≠ f + 2 → J' b = J b) → RFC I' J' f p n → Q () (K, I', J', A)) : wp (f_X12_init_l33 (some f) (zn p) (zn n) 1) Q (K, I, J, A) := by
  have hF' := hF
  obtain ⟨f0, ⟨fa4, fa5⟩, ⟨fk1, fk2⟩, hf⟩ := hF'
  have hr := pn_rng hpn
  have hrt := rt_rng hpn.1
  have hp0 : ¬ zn p = 0 := by rw [zn0 (by omega)]; omega
  unfold f_X12_init_l33
  refine for1 (N := rt p) (fun g I' J' => I' = I ∧ J' = J ∧ 1 ≤ g) ?_ ?_ (k := 1) (by omega) (by unfold fuel; omega) ⟨rfl, rfl, by omega⟩
  · rintro g I' J' R hg ⟨rfl, rfl, h2⟩ hR
    unfold f_X12_init_b33
    refine b_ck f0 (b_eq (t_isRoot f0 h0 hpn.1 (by omega)) ?_)
    rw [rt_not hpn.1 h2 hg]
    exact wp_ifn (by decide) (hR _ _ ⟨rfl, rfl, by omega⟩)
  · rintro I' J' R ⟨rfl, rfl, h2⟩
    unfold f_X12_init_b33
    refine b_ck f0 (b_eq (t_isRoot f0 h0 hpn.1 (by omega)) ?_)
    rw [rt_is hpn.1]
    refine wp_ifp (by decide) (b_putI f0 hf ?_)
    unfold f_X12_init_l58
    refine for2 (N := p - 1) (fun k x I1 J1 => J1 = J' ∧ x = zn (rt p ^ k % p) ∧ (∀ b, b ≠ f → b ≠ f + 1 → I1 b = I' b) ∧ (I1 f 0 = zn p ∧ I1 f 1 = zn n ∧ I1 f 2 = zn (rt p)) ∧ ∀ x, 1 ≤ x → x < p → lg p x < k → I1 (f + 1) x = zn (lg p x)) ?_ ?_ (k := 0) (by omega) (by unfold fuel; omega) ⟨rfl, by rw [Nat.pow_zero, Nat.mod_eq_of_lt (by omega)]; rfl, fun b h1 h2 => st2_nb h1, ⟨(st2_nk (by decide)).trans h0, (st2_nk (by decide)).trans h1, st2_at⟩, fun x _ _ _ => by omega⟩
    · rintro k x I1 J1 R1 hk ⟨rfl, rfl, hfr, hi, hv⟩ hR
      have hlt := Nat.mod_lt (rt p ^ k) (show p > 0 by omega)
      unfold f_X12_init_b58
      rw [zn_pred1 (by omega)]
      refine wp_ifn (ge_f (by omega)) (b_getA f0 fa4 (b_stI fk1 (by omega) (by omega) (by omega) (wp_rq hp0 (b_nm ?_))))
      have hm : rt p ^ k % p * rt p ≤ 199 * 199 := Nat.mul_le_mul (by omega) (by omega)
      rw [zn_mul, irem_zn (by omega) (by omega), pow_step]
      refine hR _ _ _ ⟨rfl, rfl, fun b h1 h2 => by rw [st2_nb h2]; exact hfr b h1 h2, ⟨(st2_na (by omega)).trans hi.1, (st2_na (by omega)).trans hi.2.1, (st2_na (by omega)).trans hi.2.2⟩, fun x hx1 hx2 hx3 => ?_⟩
      by_cases hx : x = rt p ^ k % p
      · rw [hx, (rt_pow hpn.1 hk).1]; exact st2_at
      · rw [st2_nk hx]
        refine hv x hx1 hx2 ?_
        have := (rt_log hpn.1 hx1 hx2).2
        have hne' : ¬ lg p x = k := fun e => hx (by rw [← e]; exact this.symm)
        omega
    · rintro x I1 J1 R1 ⟨rfl, rfl, hfr, hi, hv⟩
      unfold f_X12_init_b58
      rw [zn_pred1 (by omega)]
      refine wp_ifp (ge_t (by omega)) (t_count hF hi.2.1 ⟨hr.2.2.1, hr.2.2.2⟩ hw (fun J2 hf2 hv2 => q _ _ (fun b h1 h2 => by rw [st2_nb h1]; exact hfr b h1 h2) hf2 ⟨⟨(st2_nk (by decide)).trans hi.1, (st2_nk (by decide)).trans hi.2.1, (st2_nk (by decide)).trans hi.2.2, st2_at⟩, fun x h1 h2 => ?_, hv2⟩))
      rw [st2_na (by omega)]
      exact hv x h1 h2 (rt_log hpn.1 h1 h2).1
def fldK : List (Nat × Nat) := [(0, 10), (1, 200), (2, 13)]
theorem t_newField {G : Option Nat → Mo β} {Q : β → Hp → Prop} {p n : Nat} (hpn : pn p n) (hl : 64 ≤ K.length)
    (q : ∀ I' J' A', (∀ b, b < K.length → I' b = I b) → (∀ b, b < K.length → J' b = J b) → (∀ b, b < K.length → A' b = A b) → RFS (K ++ fldK) A' K.length → RFC I' J' K.length p n → wp (G (some K.length)) Q (K ++ fldK, I', J', A')) : wp (mBd (mNew 10) (fun r => mBd (mCk 10 r (f_X12_init r (zn p) (zn n))) (fun _ => G r))) Q (K, I, J, A) := by
  generalize hf : K.length = f at *
  refine b_new (by decide) ?_
  rw [hf]
  have e1 : (K ++ [(0, 10)]).length = f + 1 := by rw [List.length_append, hf]; rfl
  have k1 : kk (K ++ [(0, 10)]) f = (0, 10) := by rw [← hf]; exact kk_new
  refine b_ck k1 (wp_bd ?_)
  unfold f_X12_init
  refine wp_ck k1 (b_newA (n := 200) (by decide) (by decide) ?_)
  rw [e1]
  have e2 : (K ++ [(0, 10)] ++ [(1, 200)]).length = f + 2 := by rw [List.length_append, e1]; rfl
  have k2 : kk (K ++ [(0, 10)] ++ [(1, 200)]) f = (0, 10) := kk_app k1 (by decide)
  have k2' : kk (K ++ [(0, 10)] ++ [(1, 200)]) (f + 1) = (1, 200) := by rw [← e1]; exact kk_new
  refine b_putA k2 hl (b_newA (n := 13) (by decide) (by decide) ?_)
  rw [e2]
  have k3 : kk (K ++ [(0, 10)] ++ [(1, 200)] ++ [(2, 13)]) f = (0, 10) := kk_app k2 (by decide)
  have k3' : kk (K ++ [(0, 10)] ++ [(1, 200)] ++ [(2, 13)]) (f + 1) = (1, 200) := kk_app k2' (by decide)
  have k3'' : kk (K ++ [(0, 10)] ++ [(1, 200)] ++ [(2, 13)]) (f + 2) = (2, 13) := by rw [← e2]; exact kk_new
  refine b_putA k3 hl (b_putI k3 hl (b_putI k3 hl ?_))
  have eK : K ++ [(0, 10)] ++ [(1, 200)] ++ [(2, 13)] = K ++ fldK := by simp [fldK]
  rw [eK] at k3 k3' k3'' ⊢
  refine t_fieldInit (f := f) ⟨k3, ⟨?_, st2_at⟩, ⟨k3', k3''⟩, hl⟩ hpn ?_ st2_at (fun k => ?_) (fun I' J' fI fJ hC => ?_)
  · rw [st2_nk (by decide), st1_nq (by omega), st2_at]
  · rw [st2_nk (by decide), st2_at]
  · rw [st1_at]
  · refine q I' J' _ (fun b hb => ?_) (fun b hb => ?_) (fun b hb => ?_) ⟨k3, ⟨?_, st2_at⟩, ⟨k3', k3''⟩, hl⟩ hC
    · rw [fI b (by omega) (by omega), st2_nb (by omega), st2_nb (by omega), st1_nq (by omega), st1_nq (by omega), st1_nq (by omega)]
    · rw [fJ b (by omega), st1_nq (by omega), st1_nq (by omega), st1_nq (by omega)]
    · rw [st2_nb (by omega), st1_nq (by omega), st2_nb (by omega), st1_nq (by omega), st1_nq (by omega)]
    · rw [st2_nk (by decide), st1_nq (by omega), st2_at]
end
