/-! ===== registers: states, acts, images ===== -/
/-- a state: a field's number, four rows -/
abbrev RSt : Type := Nat × (Nat → Nat → Int64)
def cst (f : Nat → Int64) (p : Nat) (S : RSt) : Prop := f (p * 41) = zj S.1 ∧ ∀ r, r < 4 → ∀ i, i < 10 → f (p * 41 + 1 + r * 10 + i) = S.2 r i
def rst (f : Nat → Int64) (p : Nat) (S : RSt) : Prop := f (p * 49) = zj S.1 ∧ ∀ r, r < 4 → ∀ i, i < 12 → f (p * 49 + 1 + r * 12 + i) = S.2 r i
def okS (nf : Nat) (S : RSt) : Prop := (S.1 = 0 ∨ S.1 < nf) ∧ ∀ r i, 10 ≤ i → S.2 r i = 0
def actN (u : Nat) : Nat := if u = 20 then 20 else u + 1
def actF (u : Nat) (U : Nat → RSt) (S : RSt) : Nat → RSt := fun j => if u = 20 then (if j < 19 then U (j + 1) else S) else (if j = u then S else U j)
def putR (S : RSt) (r : Nat) (w : Nat → Int64) : RSt := (S.1, fun r' i => if r' = r then w i else S.2 r' i)
def pushF (k : Nat) (M : Nat → RSt) (S : RSt) : Nat → RSt := fun j => if j = k then S else M j
theorem actF_ok {nf u : Nat} {U : Nat → RSt} {S : RSt} (hu : u ≤ 20) (hU : ∀ j, j < u → okS nf (U j)) (hS : okS nf S) : ∀ j, j < actN u → okS nf (actF u U S j) := by
  intro j hj
  unfold actN at hj
  unfold actF
  by_cases h : u = 20
  · rw [if_pos h] at hj ⊢
    by_cases h2 : j < 19
    · rw [if_pos h2]; exact hU _ (by omega)
    · rw [if_neg h2]; exact hS
  · rw [if_neg h] at hj ⊢
    by_cases h2 : j = u
    · rw [if_pos h2]; exact hS
    · rw [if_neg h2]; exact hU _ (by omega)
theorem pushF_ok {nf k : Nat} {M : Nat → RSt} {S : RSt} (hM : ∀ j, j < k → okS nf (M j)) (hS : okS nf S) : ∀ j, j < k + 1 → okS nf (pushF k M S j) := by
  intro j hj
  unfold pushF
  by_cases h : j = k
  · rw [if_pos h]; exact hS
  · rw [if_neg h]; exact hM j (by omega)
theorem putR_ok {nf r : Nat} {w : Nat → Int64} {S : RSt} (hS : okS nf S) (hw : ∀ i, 10 ≤ i → w i = 0) : okS nf (putR S r w) := by
  refine ⟨hS.1, fun r' i hi => ?_⟩
  show (if r' = r then w i else S.2 r' i) = 0
  by_cases h : r' = r
  · rw [if_pos h]; exact hw i hi
  · rw [if_neg h]; exact hS.2 r' i hi
theorem actN_le {u : Nat} (h : u ≤ 20) : actN u ≤ 20 := by unfold actN; split <;> omega
section
variable {β : Type} {K : List (Nat × Nat)} {I : Nat → Nat → Int32} {J : Nat → Nat → Int64} {A : Nat → Nat → Option Nat}
def GS (K : List (Nat × Nat)) (A : Nat → Nat → Option Nat) (g : Nat) : Prop := kk K g = (0, 4) ∧ (A g 0 = some (g + 1) ∧ A g 1 = some (g + 2)) ∧ (kk K (g + 1) = (2, 861) ∧ kk K (g + 2) = (2, 164)) ∧ 64 ≤ g
def RGC (I : Nat → Nat → Int32) (J : Nat → Nat → Int64) (g : Nat) (S : RSt) (u : Nat) (U : Nat → RSt) (r : Nat) (R : Nat → RSt) (k : Nat) (M : Nat → RSt) : Prop :=
  ∃ c, c < 21 ∧ (I g 2 = zn c ∧ I g 3 = zn u ∧ I g 4 = zn r ∧ I g 5 = zn k) ∧ (u + r ≤ 20 ∧ k ≤ 4) ∧ cst (J (g + 1)) c S ∧ (∀ j, j < u → cst (J (g + 1)) ((c + 21 - (u - j)) % 21) (U j)) ∧ (∀ j, j < r → cst (J (g + 1)) ((c + (r - j)) % 21) (R j)) ∧ ∀ j, j < k → cst (J (g + 2)) j (M j)
theorem cst.keep {f f' : Nat → Int64} {p q : Nat} {S : RSt} (h : cst f p S) (hpq : p ≠ q) (hf : ∀ j, (j < q * 41 ∨ q * 41 + 41 ≤ j) → f' j = f j) : cst f' p S := by
  refine ⟨?_, fun r hr i hi => ?_⟩
  · rw [hf _ (by omega)]; exact h.1
  · rw [hf _ (by omega)]; exact h.2 r hr i hi
theorem t_copyState {Q : Unit → Hp → Prop} {x y s t M N : Nat} (hx : kk K x = (2, M)) (hy : kk K y = (2, N)) (hy64 : 64 ≤ y) (hM : s * 41 + 41 ≤ M) (hN : t * 41 + 41 ≤ N) (hM2 : M ≤ 10000) (hN2 : N ≤ 10000) (hxy : x ≠ y ∨ s ≠ t)
    (q : ∀ J', (∀ b, b ≠ y → J' b = J b) → (∀ i, i < 41 → J' y (t * 41 + i) = J x (s * 41 + i)) → (∀ j, (j < t * 41 ∨ t * 41 + 41 ≤ j) → J' y j = J y j) → Q () (K, I, J', A)) : wp (f_X4_copyState (some x) (zn s) (some y) (zn t)) Q (K, I, J, A) := by
  unfold f_X4_copyState f_X4_copyState_l3
  refine for1 (N := 41) (fun k I' J' => I' = I ∧ (∀ b, b ≠ y → J' b = J b) ∧ (∀ i, i < k → J' y (t * 41 + i) = J x (s * 41 + i)) ∧ ∀ j, (j < t * 41 ∨ t * 41 + k ≤ j) → J' y j = J y j) ?_ ?_ (k := 0) (by omega) (by unfold fuel; omega) ⟨rfl, fun b _ => rfl, fun i _ => by omega, fun j _ => rfl⟩
  · rintro k I' J' R hk ⟨rfl, hf, hv, ho⟩ hR
    unfold f_X4_copyState_b3
    rw [show zn s * (41 : Int32) + zn k = zn (s * 41 + k) from by rw [← zn_add, ← zn_mul]; rfl, show zn t * (41 : Int32) + zn k = zn (t * 41 + k) from by rw [← zn_add, ← zn_mul]; rfl]
    refine wp_ifn (ge_f (b := 41) (by omega)) (b_eq (t_atp hx (by omega) (by omega)) (b_eq (t_put hy hy64 (by omega) (by omega)) (hR _ _ ⟨rfl, fun b hb => ?_, fun i hi => ?_, fun j hj => ?_⟩)))
    · rw [st2_nb hb]; exact hf b hb
    · by_cases h : i = k
      · subst h
        rw [st2_at]
        by_cases hxy' : x = y
        · subst hxy'
          exact ho _ (by omega)
        · rw [hf x hxy']
      · rw [st2_nk (by omega)]; exact hv i (by omega)
    · rw [st2_nk (by omega)]; exact ho j (by omega)
  · rintro I' J' R ⟨rfl, hf, hv, ho⟩
    unfold f_X4_copyState_b3
    exact wp_ifp (ge_t (b := 41) (by omega)) (wp_rt (q J' hf hv ho))
theorem cst.copy {f f' : Nat → Int64} {s t : Nat} {S : RSt} (h : cst f s S) (hf : ∀ i, i < 41 → f' (t * 41 + i) = f (s * 41 + i)) : cst f' t S := by
  refine ⟨?_, fun r hr i hi => ?_⟩
  · have := hf 0 (by omega)
    rw [Nat.add_zero, Nat.add_zero] at this
    rw [this]; exact h.1
  · rw [show t * 41 + 1 + r * 10 + i = t * 41 + (1 + r * 10 + i) by omega, hf _ (by omega), show s * 41 + (1 + r * 10 + i) = s * 41 + 1 + r * 10 + i by omega]
    exact h.2 r hr i hi
theorem t_minA {u : Nat} {h : Hp} (hu : u ≤ 20) : f_J9_min_7cf53 (zn (u + 1)) 20 h = some (zn (actN u), h) := by
  unfold f_J9_min_7cf53 actN
  by_cases h : u = 20
  · rw [if_pos h, if_pos (show zn (u + 1) > (20 : Int32) from gt_t (b := 20) (by omega))]; rfl
  · rw [if_neg h, if_neg (show ¬ zn (u + 1) > (20 : Int32) from gt_f (b := 20) (by omega))]; rfl
theorem t_beginAct {Q : Unit → Hp → Prop} {g : Nat} {S : RSt} {u : Nat} {U : Nat → RSt} {r : Nat} {R : Nat → RSt} {k : Nat} {M : Nat → RSt} (hG : GS K A g) (hC : RGC I J g S u U r R k M)
    (q : ∀ I' J', (∀ b, b ≠ g → I' b = I b) → (∀ b, b ≠ g + 1 → J' b = J b) → RGC I' J' g S (actN u) (actF u U S) 0 R k M → Q () (K, I', J', A)) : wp (f_X4_beginAct (some g)) Q (K, I, J, A) := by
  obtain ⟨g0, ⟨ga0, ga1⟩, ⟨gk1, gk2⟩, hg⟩ := hG
  obtain ⟨c, hc, ⟨i2, i3, i4, i5⟩, ⟨hur, hk4⟩, hS, hU, hR, hM⟩ := hC
  have hm := Nat.mod_lt (c + 1) (show 21 > 0 by omega)
  unfold f_X4_beginAct
  refine b_getIv g0 i2 ?_
  rw [zn_succ]
  refine b_eq (t_modn (n := 21) (zn_i64 (by omega)) (by omega) (by omega)) (b_getA g0 ga0 (b_getIv g0 i2 (b_getA g0 ga0 (wp_bd ?_))))
  refine t_copyState gk1 gk1 (by omega) (by omega) (by omega) (by omega) (by omega) (Or.inr (by omega)) (fun J1 hf1 hv1 ho1 => ?_)
  refine b_putI g0 hg (b_getIv (v := zn u) g0 ?_ ?_)
  · rw [st2_nk (by decide)]; exact i3
  rw [zn_succ]
  refine b_eq (t_minA (by omega)) ?_
  refine b_putI g0 hg (b_putI g0 hg (wp_rt ?_))
  have au : actN u ≤ 20 := actN_le (by omega)
  refine q _ _ (fun b hb => by rw [st2_nb hb, st2_nb hb, st2_nb hb]) hf1 ⟨(c + 1) % 21, hm, ⟨?_, ?_, ?_, ?_⟩, ⟨by omega, hk4⟩, hS.copy hv1, fun j hj => ?_, fun j hj => by omega, fun j hj => ?_⟩
  · rw [st2_nk (by decide), st2_nk (by decide), st2_at]
  · rw [st2_nk (by decide), st2_at]
  · rw [st2_at]; rfl
  · rw [st2_nk (by decide), st2_nk (by decide), st2_nk (by decide)]; exact i5
  · unfold actN at hj
    unfold actF actN
    by_cases h : u = 20
    · rw [if_pos h] at hj
      rw [if_pos h, if_pos h]
      by_cases h2 : j < 19
      · rw [if_pos h2]
        have := hU (j + 1) (by omega)
        rw [show (c + 21 - (u - (j + 1))) % 21 = ((c + 1) % 21 + 21 - (20 - j)) % 21 by omega] at this
        exact this.keep (by omega) ho1
      · rw [if_neg h2]
        have : j = 19 := by omega
        subst this
        rw [show ((c + 1) % 21 + 21 - (20 - 19)) % 21 = c by omega]
        exact hS.keep (by omega) ho1
    · rw [if_neg h] at hj
      rw [if_neg h, if_neg h]
      by_cases h2 : j = u
      · rw [if_pos h2, h2, show ((c + 1) % 21 + 21 - (u + 1 - u)) % 21 = c by omega]
        exact hS.keep (by omega) ho1
      · rw [if_neg h2]
        have := hU j (by omega)
        rw [show (c + 21 - (u - j)) % 21 = ((c + 1) % 21 + 21 - (u + 1 - j)) % 21 by omega] at this
        exact this.keep (by omega) ho1
  · rw [hf1 (g + 2) (by omega)]; exact hM j hj
theorem t_stepBack {Q : Int32 → Hp → Prop} {g : Nat} {S : RSt} {u : Nat} {U : Nat → RSt} {r : Nat} {R : Nat → RSt} {k : Nat} {M : Nat → RSt} (hG : GS K A g) (hC : RGC I J g S u U r R k M)
    (q0 : u = 0 → Q 0 (K, I, J, A)) (q1 : 1 ≤ u → ∀ I', (∀ b, b ≠ g → I' b = I b) → RGC I' J g (U (u - 1)) (u - 1) U (r + 1) (pushF r R S) k M → Q 1 (K, I', J, A)) : wp (f_X4_stepBack (some g)) Q (K, I, J, A) := by
  obtain ⟨g0, ⟨ga0, ga1⟩, ⟨gk1, gk2⟩, hg⟩ := hG
  obtain ⟨c, hc, ⟨i2, i3, i4, i5⟩, ⟨hur, hk4⟩, hS, hU, hR, hM⟩ := hC
  unfold f_X4_stepBack
  refine b_getIv g0 i3 (wp_ifq (not_congr (zn0 (by omega))) ?_)
  by_cases h : u = 0
  · exact wp_ifn (fun q => q h) (wp_rt (q0 h))
  · refine wp_ifp h (b_getIv g0 i2 ?_)
    rw [show zn c - (1 : Int32) = zi ((c : Int) - 1) from by rw [zn_zi]; exact zi_sub _ 1]
    refine b_eq (t_mod (n := 21) (zj_zi (by omega) (by omega)) (by omega) (by omega)) ?_
    rw [show (((c : Int) - 1) % ((21 : Nat) : Int)).toNat = (c + 20) % 21 by omega]
    refine b_putI g0 hg (b_getIv (v := zn u) g0 (by rw [st2_nk (by decide)]; exact i3) ?_)
    rw [zn_pred1 (by omega)]
    refine b_putI g0 hg (b_getIv (v := zn r) g0 (by rw [st2_nk (by decide), st2_nk (by decide)]; exact i4) ?_)
    rw [zn_succ]
    refine b_putI g0 hg (wp_rt (q1 (by omega) _ (fun b hb => by rw [st2_nb hb, st2_nb hb, st2_nb hb]) ⟨(c + 20) % 21, by omega, ⟨?_, ?_, ?_, ?_⟩, ⟨by omega, hk4⟩, ?_, fun j hj => ?_, fun j hj => ?_, hM⟩))
    · rw [st2_nk (by decide), st2_nk (by decide), st2_at]
    · rw [st2_nk (by decide), st2_at]
    · rw [st2_at]
    · rw [st2_nk (by decide), st2_nk (by decide), st2_nk (by decide)]; exact i5
    · have := hU (u - 1) (by omega)
      rw [show (c + 21 - (u - (u - 1))) % 21 = (c + 20) % 21 by omega] at this
      exact this
    · have := hU j (by omega)
      rw [show (c + 21 - (u - j)) % 21 = ((c + 20) % 21 + 21 - (u - 1 - j)) % 21 by omega] at this
      exact this
    · unfold pushF
      by_cases h2 : j = r
      · rw [if_pos h2, h2, show ((c + 20) % 21 + (r + 1 - r)) % 21 = c by omega]; exact hS
      · rw [if_neg h2]
        have := hR j (by omega)
        rw [show (c + (r - j)) % 21 = ((c + 20) % 21 + (r + 1 - j)) % 21 by omega] at this
        exact this
theorem t_stepOn {Q : Int32 → Hp → Prop} {g : Nat} {S : RSt} {u : Nat} {U : Nat → RSt} {r : Nat} {R : Nat → RSt} {k : Nat} {M : Nat → RSt} (hG : GS K A g) (hC : RGC I J g S u U r R k M)
    (q0 : r = 0 → Q 0 (K, I, J, A)) (q1 : 1 ≤ r → ∀ I', (∀ b, b ≠ g → I' b = I b) → RGC I' J g (R (r - 1)) (u + 1) (pushF u U S) (r - 1) R k M → Q 1 (K, I', J, A)) : wp (f_X4_stepOn (some g)) Q (K, I, J, A) := by
  obtain ⟨g0, ⟨ga0, ga1⟩, ⟨gk1, gk2⟩, hg⟩ := hG
  obtain ⟨c, hc, ⟨i2, i3, i4, i5⟩, ⟨hur, hk4⟩, hS, hU, hR, hM⟩ := hC
  unfold f_X4_stepOn
  refine b_getIv g0 i4 (wp_ifq (not_congr (zn0 (by omega))) ?_)
  by_cases h : r = 0
  · exact wp_ifn (fun q => q h) (wp_rt (q0 h))
  · refine wp_ifp h (b_getIv g0 i2 ?_)
    rw [zn_succ]
    refine b_eq (t_modn (n := 21) (zn_i64 (by omega)) (by omega) (by omega)) ?_
    refine b_putI g0 hg (b_getIv (v := zn u) g0 (by rw [st2_nk (by decide)]; exact i3) ?_)
    rw [zn_succ]
    refine b_putI g0 hg (b_getIv (v := zn r) g0 (by rw [st2_nk (by decide), st2_nk (by decide)]; exact i4) ?_)
    rw [zn_pred1 (by omega)]
    refine b_putI g0 hg (wp_rt (q1 (by omega) _ (fun b hb => by rw [st2_nb hb, st2_nb hb, st2_nb hb]) ⟨(c + 1) % 21, by omega, ⟨?_, ?_, ?_, ?_⟩, ⟨by omega, hk4⟩, ?_, fun j hj => ?_, fun j hj => ?_, hM⟩))
    · rw [st2_nk (by decide), st2_nk (by decide), st2_at]
    · rw [st2_nk (by decide), st2_at]
    · rw [st2_at]
    · rw [st2_nk (by decide), st2_nk (by decide), st2_nk (by decide)]; exact i5
    · have := hR (r - 1) (by omega)
      rw [show (c + (r - (r - 1))) % 21 = (c + 1) % 21 by omega] at this
      exact this
    · unfold pushF
      by_cases h2 : j = u
      · rw [if_pos h2, h2, show ((c + 1) % 21 + 21 - (u + 1 - u)) % 21 = c by omega]; exact hS
      · rw [if_neg h2]
        have := hU j (by omega)
        rw [show (c + 21 - (u - j)) % 21 = ((c + 1) % 21 + 21 - (u + 1 - j)) % 21 by omega] at this
        exact this
    · have := hR j (by omega)
      rw [show (c + (r - j)) % 21 = ((c + 1) % 21 + (r - 1 - j)) % 21 by omega] at this
      exact this
theorem t_keepImage {Q : Int32 → Hp → Prop} {g : Nat} {S : RSt} {u : Nat} {U : Nat → RSt} {r : Nat} {R : Nat → RSt} {k : Nat} {M : Nat → RSt} (hG : GS K A g) (hC : RGC I J g S u U r R k M)
    (q0 : k = 4 → Q 0 (K, I, J, A)) (q1 : k < 4 → ∀ I' J', (∀ b, b ≠ g → I' b = I b) → (∀ b, b ≠ g + 2 → J' b = J b) → RGC I' J' g S u U r R (k + 1) (pushF k M S) → Q 1 (K, I', J', A)) : wp (f_X4_keepImage (some g)) Q (K, I, J, A) := by
  obtain ⟨g0, ⟨ga0, ga1⟩, ⟨gk1, gk2⟩, hg⟩ := hG
  obtain ⟨c, hc, ⟨i2, i3, i4, i5⟩, ⟨hur, hk4⟩, hS, hU, hR, hM⟩ := hC
  unfold f_X4_keepImage
  refine b_getIv g0 i5 ?_
  by_cases h : k = 4
  · exact wp_ifn (lt_f (b := 4) (by omega)) (wp_rt (q0 h))
  · refine wp_ifp (lt_t (b := 4) (by omega)) (b_getA g0 ga0 (b_getIv g0 i2 (b_getA g0 ga1 (b_getIv g0 i5 (wp_bd ?_)))))
    refine t_copyState gk1 gk2 (by omega) (by omega) (by omega) (by omega) (by omega) (Or.inl (by omega)) (fun J1 hf1 hv1 ho1 => ?_)
    refine b_getIv g0 i5 ?_
    rw [zn_succ]
    refine b_putI g0 hg (wp_rt (q1 (by omega) _ _ (fun b hb => by rw [st2_nb hb]) hf1 ⟨c, hc, ⟨?_, ?_, ?_, st2_at⟩, ⟨hur, by omega⟩, ?_, fun j hj => ?_, fun j hj => ?_, fun j hj => ?_⟩))
    · rw [st2_nk (by decide)]; exact i2
    · rw [st2_nk (by decide)]; exact i3
    · rw [st2_nk (by decide)]; exact i4
    · rw [hf1 (g + 1) (by omega)]; exact hS
    · rw [hf1 (g + 1) (by omega)]; exact hU j hj
    · rw [hf1 (g + 1) (by omega)]; exact hR j hj
    · unfold pushF
      by_cases h2 : j = k
      · rw [if_pos h2, h2]; exact hS.copy hv1
      · rw [if_neg h2]; exact (hM j (by omega)).keep h2 ho1
theorem t_bringBack {Q : Unit → Hp → Prop} {g i : Nat} {S : RSt} {u : Nat} {U : Nat → RSt} {r : Nat} {R : Nat → RSt} {k : Nat} {M : Nat → RSt} (hG : GS K A g) (hC : RGC I J g S u U r R k M) (hi : i < k)
    (q : ∀ J', (∀ b, b ≠ g + 1 → J' b = J b) → RGC I J' g (M i) u U r R k M → Q () (K, I, J', A)) : wp (f_X4_bringBack (some g) (zn i)) Q (K, I, J, A) := by
  obtain ⟨g0, ⟨ga0, ga1⟩, ⟨gk1, gk2⟩, hg⟩ := hG
  obtain ⟨c, hc, ⟨i2, i3, i4, i5⟩, ⟨hur, hk4⟩, hS, hU, hR, hM⟩ := hC
  unfold f_X4_bringBack
  refine b_getA g0 ga1 (b_getA g0 ga0 (b_getIv g0 i2 (wp_bd (t_copyState gk2 gk1 (by omega) (by omega) (by omega) (by omega) (by omega) (Or.inl (by omega)) (fun J1 hf1 hv1 ho1 => wp_rt (q J1 hf1 ⟨c, hc, ⟨i2, i3, i4, i5⟩, ⟨hur, hk4⟩, (hM i hi).copy hv1, fun j hj => (hU j hj).keep (by omega) ho1, fun j hj => (hR j hj).keep (by omega) ho1, fun j hj => ?_⟩))))))
  rw [hf1 (g + 2) (by omega)]; exact hM j hj
theorem c41 (c k : Nat) : zn c * (41 : Int32) + zn k = zn (c * 41 + k) := by rw [← zn_add, ← zn_mul]; rfl
theorem c41' (c : Nat) : zn c * (41 : Int32) = zn (c * 41) := zn_mul c 41
theorem t_clearTo {Q : Unit → Hp → Prop} {g f : Nat} {S : RSt} {u : Nat} {U : Nat → RSt} {r : Nat} {R : Nat → RSt} {k : Nat} {M : Nat → RSt} (hG : GS K A g) (hC : RGC I J g S u U r R k M) (hf : f < 1000)
    (q : ∀ J', (∀ b, b ≠ g + 1 → J' b = J b) → RGC I J' g (f, fun _ _ => 0) u U r R k M → Q () (K, I, J', A)) : wp (f_X4_clearTo (some g) (zn f)) Q (K, I, J, A) := by
  obtain ⟨g0, ⟨ga0, ga1⟩, ⟨gk1, gk2⟩, hg⟩ := hG
  obtain ⟨c, hc, ⟨i2, i3, i4, i5⟩, ⟨hur, hk4⟩, hS, hU, hR, hM⟩ := hC
  unfold f_X4_clearTo f_X4_clearTo_l2
  refine for1 (N := 41) (fun k I' J' => I' = I ∧ (∀ b, b ≠ g + 1 → J' b = J b) ∧ (∀ i, i < k → J' (g + 1) (c * 41 + i) = 0) ∧ ∀ j, (j < c * 41 ∨ c * 41 + 41 ≤ j) → J' (g + 1) j = J (g + 1) j) ?_ ?_ (k := 0) (by omega) (by unfold fuel; omega) ⟨rfl, fun b _ => rfl, fun i _ => by omega, fun j _ => rfl⟩
  · rintro k I' J' R' hk ⟨rfl, hf', hv, ho⟩ hR'
    unfold f_X4_clearTo_b2
    refine wp_ifn (ge_f (b := 41) (by omega)) (b_getA g0 ga0 (b_getIv g0 i2 ?_))
    rw [c41]
    refine b_eq (t_put gk1 (by omega) (by omega) (by omega)) (hR' _ _ ⟨rfl, fun b hb => ?_, fun i hi => ?_, fun j hj => ?_⟩)
    · rw [st2_nb hb]; exact hf' b hb
    · by_cases h : i = k
      · subst h; exact st2_at
      · rw [st2_nk (by omega)]; exact hv i (by omega)
    · rw [st2_nk (by omega)]; exact ho j (by omega)
  · rintro I' J' R' ⟨rfl, hf', hv, ho⟩
    unfold f_X4_clearTo_b2
    refine wp_ifp (ge_t (b := 41) (by omega)) (b_getA g0 ga0 (b_getIv g0 i2 ?_))
    rw [c41']
    have ho2 : ∀ j, (j < c * 41 ∨ c * 41 + 41 ≤ j) → st2 J' (g + 1) (c * 41) (zn f).toInt64 (g + 1) j = J (g + 1) j := fun j hj => by rw [st2_nk (by omega)]; exact ho j hj
    refine b_eq (t_put gk1 (by omega) (by omega) (by omega)) (wp_rt (q _ (fun b hb => by rw [st2_nb hb]; exact hf' b hb) ⟨c, hc, ⟨i2, i3, i4, i5⟩, ⟨hur, hk4⟩, ⟨?_, fun r hr i hi => ?_⟩, fun j hj => (hU j hj).keep (by omega) ho2, fun j hj => (hR j hj).keep (by omega) ho2, fun j hj => ?_⟩))
    · rw [st2_at, zn_64 (by omega)]
    · rw [st2_nk (by omega), show c * 41 + 1 + r * 10 + i = c * 41 + (1 + r * 10 + i) by omega]
      exact hv _ (by omega)
    · rw [st2_nb (by omega), hf' (g + 2) (by omega)]; exact hM j hj
theorem t_fieldNow {g : Nat} {S : RSt} {u : Nat} {U : Nat → RSt} {r : Nat} {R : Nat → RSt} {k : Nat} {M : Nat → RSt} (hG : GS K A g) (hC : RGC I J g S u U r R k M) : f_X4_fieldNow (some g) (K, I, J, A) = some (zn S.1, (K, I, J, A)) := by
  apply wp_get
  obtain ⟨g0, ⟨ga0, ga1⟩, ⟨gk1, gk2⟩, hg⟩ := hG
  obtain ⟨c, hc, ⟨i2, i3, i4, i5⟩, ⟨hur, hk4⟩, hS, hU, hR, hM⟩ := hC
  unfold f_X4_fieldNow
  refine b_getA g0 ga0 (b_getIv g0 i2 ?_)
  rw [c41']
  refine b_eq (t_atp gk1 (by omega) (by omega)) (wp_rt ⟨?_, rfl⟩)
  rw [hS.1, zj_32, zn_zi]
theorem t_startOf {g c r : Nat} (hG : GS K A g) (hc : I g 2 = zn c) : f_X4_startOf (some g) (zn r) (K, I, J, A) = some (zn (c * 41 + 1 + r * 10), (K, I, J, A)) := by
  apply wp_get
  unfold f_X4_startOf
  refine b_getIv hG.1 hc (wp_rt ⟨?_, rfl⟩)
  rw [c41', zn_succ, show zn r * (10 : Int32) = zn (r * 10) from zn_mul r 10, zn_add]
theorem t_copyOut {Q : Unit → Hp → Prop} {g t x : Nat} {S : RSt} {u : Nat} {U : Nat → RSt} {r : Nat} {R : Nat → RSt} {k : Nat} {M : Nat → RSt} (hG : GS K A g) (hC : RGC I J g S u U r R k M) (ht : t < 4) (hx : kk K x = (2, 10)) (hx64 : 64 ≤ x) (hxg : x ≠ g + 1)
    (q : ∀ J', (∀ b, b ≠ x → J' b = J b) → (∀ i, i < 10 → J' x i = S.2 t i) → Q () (K, I, J', A)) : wp (f_X4_copyOut (some g) (zn t) (some x)) Q (K, I, J, A) := by
  have hG' := hG
  obtain ⟨g0, ⟨ga0, ga1⟩, ⟨gk1, gk2⟩, hg⟩ := hG'
  obtain ⟨c, hc, ⟨i2, i3, i4, i5⟩, ⟨hur, hk4⟩, hS, hU, hR, hM⟩ := hC
  unfold f_X4_copyOut f_X4_copyOut_l2
  refine for1 (N := 10) (fun k I' J' => I' = I ∧ (∀ b, b ≠ x → J' b = J b) ∧ ∀ i, i < k → J' x i = S.2 t i) ?_ ?_ (k := 0) (by omega) (by unfold fuel; omega) ⟨rfl, fun b _ => rfl, fun i _ => by omega⟩
  · rintro k I' J' R' hk ⟨rfl, hf', hv⟩ hR'
    unfold f_X4_copyOut_b2
    refine wp_ifn (ge_f (b := 10) (by omega)) (b_getA g0 ga0 (b_ck g0 (b_eq (t_startOf hG i2) ?_)))
    rw [zn_add]
    refine b_eq (t_atp gk1 (by omega) (by omega)) (b_eq (t_put hx hx64 (by omega) (by omega)) (hR' _ _ ⟨rfl, fun b hb => ?_, fun i hi => ?_⟩))
    · rw [st2_nb hb]; exact hf' b hb
    · by_cases h : i = k
      · subst h; rw [st2_at, hf' (g + 1) (fun e => hxg e.symm)]; exact hS.2 t ht i hk
      · rw [st2_nk h]; exact hv i (by omega)
  · rintro I' J' R' ⟨rfl, hf', hv⟩
    unfold f_X4_copyOut_b2
    exact wp_ifp (ge_t (b := 10) (by omega)) (wp_rt (q J' hf' hv))
theorem t_copyIn {Q : Unit → Hp → Prop} {g t x : Nat} {w : Nat → Int64} {S : RSt} {u : Nat} {U : Nat → RSt} {r : Nat} {R : Nat → RSt} {k : Nat} {M : Nat → RSt} (hG : GS K A g) (hC : RGC I J g S u U r R k M) (ht : t < 4) (hx : kk K x = (2, 10)) (hxg : x ≠ g + 1) (hw : ∀ i, i < 10 → J x i = w i)
    (q : ∀ J', (∀ b, b ≠ g + 1 → J' b = J b) → RGC I J' g (putR S t w) u U r R k M → Q () (K, I, J', A)) : wp (f_X4_copyIn (some g) (zn t) (some x)) Q (K, I, J, A) := by
  have hG' := hG
  obtain ⟨g0, ⟨ga0, ga1⟩, ⟨gk1, gk2⟩, hg⟩ := hG'
  obtain ⟨c, hc, ⟨i2, i3, i4, i5⟩, ⟨hur, hk4⟩, hS, hU, hR, hM⟩ := hC
  unfold f_X4_copyIn f_X4_copyIn_l2
  refine for1 (N := 10) (fun k I' J' => I' = I ∧ (∀ b, b ≠ g + 1 → J' b = J b) ∧ (∀ i, i < k → J' (g + 1) (c * 41 + 1 + t * 10 + i) = w i) ∧ ∀ j, (j < c * 41 + 1 + t * 10 ∨ c * 41 + 1 + t * 10 + 10 ≤ j) → J' (g + 1) j = J (g + 1) j) ?_ ?_ (k := 0) (by omega) (by unfold fuel; omega) ⟨rfl, fun b _ => rfl, fun i _ => by omega, fun j _ => rfl⟩
  · rintro k I' J' R' hk ⟨rfl, hf', hv, ho⟩ hR'
    unfold f_X4_copyIn_b2
    refine wp_ifn (ge_f (b := 10) (by omega)) (b_getA g0 ga0 (b_ck g0 (b_eq (t_startOf hG i2) (b_eq (t_atp hx (by omega) (by omega)) ?_))))
    rw [zn_add]
    refine b_eq (t_put gk1 (by omega) (by omega) (by omega)) (hR' _ _ ⟨rfl, fun b hb => ?_, fun i hi => ?_, fun j hj => ?_⟩)
    · rw [st2_nb hb]; exact hf' b hb
    · by_cases h : i = k
      · subst h; rw [st2_at, hf' x hxg]; exact hw i hk
      · rw [st2_nk (by omega)]; exact hv i (by omega)
    · rw [st2_nk (by omega)]; exact ho j (by omega)
  · rintro I' J' R' ⟨rfl, hf', hv, ho⟩
    unfold f_X4_copyIn_b2
    have ho2 : ∀ j, (j < c * 41 ∨ c * 41 + 41 ≤ j) → J' (g + 1) j = J (g + 1) j := fun j hj => ho j (by omega)
    refine wp_ifp (ge_t (b := 10) (by omega)) (wp_rt (q J' hf' ⟨c, hc, ⟨i2, i3, i4, i5⟩, ⟨hur, hk4⟩, ⟨?_, fun r hr i hi => ?_⟩, fun j hj => (hU j hj).keep (by omega) ho2, fun j hj => (hR j hj).keep (by omega) ho2, fun j hj => ?_⟩))
    · rw [ho _ (by omega)]; exact hS.1
    · show _ = if r = t then w i else S.2 r i
      by_cases h : r = t
      · rw [if_pos h, h]; exact hv i hi
      · rw [if_neg h, ho _ (by omega)]; exact hS.2 r hr i hi
    · rw [hf' (g + 2) (by omega)]; exact hM j hj
theorem RGC.mv {I I' : Nat → Nat → Int32} {J J' : Nat → Nat → Int64} {g : Nat} {S : RSt} {u : Nat} {U : Nat → RSt} {r : Nat} {R : Nat → RSt} {k : Nat} {M : Nat → RSt} (h : RGC I J g S u U r R k M) (e0 : I' g = I g) (e1 : J' (g + 1) = J (g + 1)) (e2 : J' (g + 2) = J (g + 2)) : RGC I' J' g S u U r R k M := by
  obtain ⟨c, hc, ⟨i2, i3, i4, i5⟩, h2, hS, hU, hR, hM⟩ := h
  exact ⟨c, hc, ⟨by rw [e0]; exact i2, by rw [e0]; exact i3, by rw [e0]; exact i4, by rw [e0]; exact i5⟩, h2, by rw [e1]; exact hS, fun j hj => by rw [e1]; exact hU j hj, fun j hj => by rw [e1]; exact hR j hj, fun j hj => by rw [e2]; exact hM j hj⟩
end
