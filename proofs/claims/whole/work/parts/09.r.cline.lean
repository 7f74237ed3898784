/-! ===== a line's faults ===== -/
def Flt (g : Nat → Bool → EX) : Prop := ∀ t H k s, t ≤ 900 → g t H = Sum.inl (k, s) → 1 ≤ k ∧ k < 6 ∧ s < 1000
section
variable {β : Type} {kw : Nat → Int64} {K : List (Nat × Nat)} {I I' : Nat → Nat → Int32} {J J' : Nat → Nat → Int64} {A : Nat → Nat → Option Nat} {w : WD}
variable {b : Nat → Nat} {n t m p f : Nat} {B : BKD} {N : NMD} {at' : Nat → Bool → EX}
theorem inl_eq {α : Type} {k s k' s' : Nat} (h : (Sum.inl (k, s) : (Nat × Nat) ⊕ α) = Sum.inl (k', s')) : k' = k ∧ s' = s := by
  have := Prod.mk.inj (Sum.inl.inj h)
  exact ⟨this.1.symm, this.2.symm⟩
theorem ifl {α : Type} {c : Prop} [Decidable c] {k0 s0 k s : Nat} {X : (Nat × Nat) ⊕ α} (h : (if c then Sum.inl (k0, s0) else X) = Sum.inl (k, s)) : (c ∧ k = k0 ∧ s = s0) ∨ (¬ c ∧ X = Sum.inl (k, s)) := by
  by_cases hc : c
  · rw [if_pos hc] at h; exact Or.inl ⟨hc, inl_eq h⟩
  · rw [if_neg hc] at h; exact Or.inr ⟨hc, h⟩
theorem ifr {α : Type} {c : Prop} [Decidable c] {e : Nat × Nat} {q : α} {X : (Nat × Nat) ⊕ α} (h : (if c then Sum.inl e else X) = Sum.inr q) : ¬ c ∧ X = Sum.inr q := by
  by_cases hc : c
  · rw [if_pos hc] at h; exact absurd h (by simp)
  · rw [if_neg hc] at h; exact ⟨hc, h⟩
theorem nlr {α : Type} {e : Nat × Nat} {q : α} (h : (Sum.inr q : (Nat × Nat) ⊕ α) = Sum.inl e) : False := by cases h
theorem nrl {α : Type} {e : Nat × Nat} {q : α} (h : (Sum.inl e : (Nat × Nat) ⊕ α) = Sum.inr q) : False := by cases h
theorem prL_flt (hn : n ≤ 900) (hT : Tame at') (hF : Flt at') : ∀ k r H t, t ≤ 900 → ∀ kk s, prL b n m at' k r H t = Sum.inl (kk, s) → 1 ≤ kk ∧ kk < 6 ∧ s < 1000 := by
  intro k
  induction k with
  | zero =>
    intro r H t ht kk s h
    unfold prL at h
    obtain ⟨e1, e2⟩ := inl_eq h
    omega
  | succ k ih =>
    intro r H t ht kk s h
    unfold prL at h
    by_cases hg : isG b n t 42 = true
    · rw [if_pos hg] at h
      have := tok_lt (b := b) (t := t) hn (by have := isG_k hg; omega)
      cases ha : at' (t + 1) H with
      | inl e =>
        obtain ⟨e1, e2⟩ := e
        rw [ha] at h
        obtain ⟨z1, z2⟩ := inl_eq h
        have := hF _ _ _ _ (by omega) ha
        omega
      | inr q =>
        obtain ⟨q1, q2, q3⟩ := q
        rw [ha] at h
        exact ih _ _ _ (hT _ _ _ _ _ ha).1.2 _ _ h
    · rw [if_neg hg] at h; exact absurd h (by simp)
theorem prF_flt (hn : n ≤ 900) (hT : Tame at') (hF : Flt at') : Flt (prF b n m at') := by
  intro t H k s ht h
  unfold prF at h
  cases ha : at' t H with
  | inl e =>
    obtain ⟨e1, e2⟩ := e
    rw [ha] at h
    obtain ⟨z1, z2⟩ := inl_eq h
    have := hF _ _ _ _ ht ha
    omega
  | inr q =>
    obtain ⟨q1, q2, q3⟩ := q
    rw [ha] at h
    exact prL_flt hn hT hF _ _ _ _ (hT _ _ _ _ _ ha).1.2 _ _ h
theorem suL_flt {pr : Nat → Bool → EX} (hn : n ≤ 900) (hT : Tame pr) (hF : Flt pr) : ∀ k r H t, t ≤ 900 → ∀ kk s, suL b n pr k r H t = Sum.inl (kk, s) → 1 ≤ kk ∧ kk < 6 ∧ s < 1000 := by
  intro k
  induction k with
  | zero =>
    intro r H t ht kk s h
    unfold suL at h
    obtain ⟨e1, e2⟩ := inl_eq h
    omega
  | succ k ih =>
    intro r H t ht kk s h
    unfold suL at h
    by_cases hg : (isG b n t 45 || isG b n t 43) = true
    · rw [if_pos hg] at h
      have hk3 : kd' kwC b n t = 3 := by
        rcases (Bool.or_eq_true _ _).mp hg with h | h
        · exact isG_k h
        · exact isG_k h
      have := tok_lt (b := b) (t := t) hn (by omega)
      cases ha : pr (t + 1) H with
      | inl e =>
        obtain ⟨e1, e2⟩ := e
        rw [ha] at h
        obtain ⟨z1, z2⟩ := inl_eq h
        have := hF _ _ _ _ (by omega) ha
        omega
      | inr q =>
        obtain ⟨q1, q2, q3⟩ := q
        rw [ha] at h
        exact ih _ _ _ (hT _ _ _ _ _ ha).1.2 _ _ h
    · rw [if_neg hg] at h; exact absurd h (by simp)
theorem suF_flt {pr : Nat → Bool → EX} (hn : n ≤ 900) (hT : Tame pr) (hF : Flt pr) : Flt (suF b n pr) := by
  intro t H k s ht h
  unfold suF at h
  cases ha : pr t H with
  | inl e =>
    obtain ⟨e1, e2⟩ := e
    rw [ha] at h
    obtain ⟨z1, z2⟩ := inl_eq h
    have := hF _ _ _ _ ht ha
    omega
  | inr q =>
    obtain ⟨q1, q2, q3⟩ := q
    rw [ha] at h
    exact suL_flt hn hT hF _ _ _ _ (hT _ _ _ _ _ ha).1.2 _ _ h
theorem at0_flt {dp : Nat → Bool → EX} (hF : Flt dp) : Flt (fun t H => at0 b n p m f B N (dp t H) t H) := by
  intro t H k s ht h
  have h' : at0 b n p m f B N (dp t H) t H = Sum.inl (k, s) := h
  unfold at0 at h'
  by_cases c1 : kd' kwC b n t = 2
  · rw [if_pos c1] at h'; exact (nlr h').elim
  rw [if_neg c1] at h'
  by_cases c2 : kd' kwC b n t = 5
  · rw [if_pos c2] at h'
    cases hf : fnN N (vl kwC b n t) 2 with
    | none =>
      rw [hf] at h'
      obtain ⟨z1, z2⟩ := inl_eq h'
      omega
    | some l =>
      rw [hf] at h'
      dsimp only at h'
      by_cases c3 : blf B l = f
      · rw [if_pos c3] at h'; exact (nlr h').elim
      · rw [if_neg c3] at h'
        obtain ⟨z1, z2⟩ := inl_eq h'
        omega
  rw [if_neg c2] at h'
  by_cases c3 : isW b n t 9 = true
  · rw [if_pos c3] at h'
    rcases ifl h' with ⟨_, e1, e2⟩ | ⟨_, h'⟩
    · omega
    rcases ifl h' with ⟨_, e1, e2⟩ | ⟨_, h'⟩
    · omega
    exact (nlr h').elim
  rw [if_neg c3] at h'
  by_cases c4 : isW b n t 10 = true
  · rw [if_pos c4] at h'
    rcases ifl h' with ⟨_, e1, e2⟩ | ⟨_, h'⟩
    · omega
    rcases ifl h' with ⟨_, e1, e2⟩ | ⟨_, h'⟩
    · omega
    rcases ifl h' with ⟨_, e1, e2⟩ | ⟨_, h'⟩
    · omega
    rcases ifl h' with ⟨_, e1, e2⟩ | ⟨_, h'⟩
    · omega
    rcases ifl h' with ⟨_, e1, e2⟩ | ⟨_, h'⟩
    · omega
    exact (nlr h').elim
  rw [if_neg c4] at h'
  exact hF _ _ _ _ ht h'
theorem tnR_flt {w d : Nat} {H : Bool} (hF : Flt at') (ht : t + d ≤ 900) : ∀ k s, tnR m w (at' (t + d) H) = Sum.inl (k, s) → 1 ≤ k ∧ k < 6 ∧ s < 1000 := by
  intro k s h
  unfold tnR at h
  cases ha : at' (t + d) H with
  | inl e =>
    obtain ⟨e1, e2⟩ := e
    rw [ha] at h
    obtain ⟨z1, z2⟩ := inl_eq h
    have := hF _ _ _ _ ht ha
    omega
  | inr q => rw [ha] at h; exact absurd h (by simp)
theorem dpS_flt (hn : n ≤ 900) (hm : 2 ≤ m ∧ m ≤ 12) (hT : Tame at') (hF : Flt at') : Flt (dpS b n m at') := by
  intro t H k s ht h
  unfold dpS at h
  by_cases c1 : isG b n t 40 = true
  · rw [if_pos c1] at h
    have := tok_lt (b := b) (t := t) hn (by have := isG_k c1; omega)
    cases ha : suF b n (prF b n m at') (t + 1) H with
    | inl e =>
      obtain ⟨e1, e2⟩ := e
      rw [ha] at h
      obtain ⟨z1, z2⟩ := inl_eq h
      have := suF_flt hn (prF_tame hn hm hT) (prF_flt hn hT hF) _ _ _ _ (by omega) ha
      omega
    | inr q =>
      obtain ⟨q1, q2, q3⟩ := q
      have h3 := (suF_tame hn (prF_tame hn hm hT) _ _ _ _ _ ha).1.2
      rw [ha] at h
      dsimp only at h
      by_cases c2 : isG b n q3 41 = true
      · rw [if_pos c2] at h; exact absurd h (by simp)
      · rw [if_neg c2] at h
        obtain ⟨z1, z2⟩ := inl_eq h
        omega
  rw [if_neg c1] at h
  by_cases c2 : isW b n t 12 = true
  · rw [if_pos c2] at h
    have := tok_lt (b := b) (t := t) hn (by have := isW_k c2; omega)
    by_cases c5 : kd' kwC b n (t + 1) ≠ 2
    · rw [if_pos c5] at h
      obtain ⟨z1, z2⟩ := inl_eq h
      omega
    rw [if_neg c5] at h
    by_cases c6 : unt m (whN b n (t + 1)) = false
    · rw [if_pos c6] at h
      obtain ⟨z1, z2⟩ := inl_eq h
      omega
    rw [if_neg c6] at h
    have := tok_lt (b := b) (t := t + 1) hn (by omega)
    exact tnR_flt hF (by omega) _ _ h
  rw [if_neg c2] at h
  by_cases c3 : isW b n t 11 = true
  · rw [if_pos c3] at h
    have := tok_lt (b := b) (t := t) hn (by have := isW_k c3; omega)
    exact tnR_flt hF (by omega) _ _ h
  rw [if_neg c3] at h
  obtain ⟨z1, z2⟩ := inl_eq h
  omega
theorem atX_flt (hn : n ≤ 900) (hpn : pn p m) (hk : okB B) (hNB : okNB B N) : ∀ k, Flt (atX b n p m f B N k) := by
  intro k
  have hm := pn_rng hpn
  induction k with
  | zero =>
    refine at0_flt (dp := fun t _ => dp0 b n t) ?_
    intro t H k s ht h
    have h' : dp0 b n t = Sum.inl (k, s) := h
    unfold dp0 at h'
    split at h' <;> (obtain ⟨z1, z2⟩ := inl_eq h'; omega)
  | succ k ih => exact at0_flt (dp := dpS b n m (fun t H => atX b n p m f B N k t H)) (dpS_flt hn ⟨hm.2.2.1, hm.2.2.2⟩ (atX_tame hn hpn hk hNB k) ih)
theorem suX_flt (hn : n ≤ 900) (hpn : pn p m) (hk : okB B) (hNB : okNB B N) : Flt (suX b n p m f B N) := by
  have hm := pn_rng hpn
  exact suF_flt hn (prF_tame hn ⟨hm.2.2.1, hm.2.2.2⟩ (atX_tame hn hpn hk hNB 8)) (prF_flt hn (atX_tame hn hpn hk hNB 8) (atX_flt hn hpn hk hNB 8))
theorem suX_tame (hn : n ≤ 900) (hpn : pn p m) (hk : okB B) (hNB : okNB B N) : Tame (suX b n p m f B N) := by
  have hm := pn_rng hpn
  exact suF_tame hn (prF_tame hn ⟨hm.2.2.1, hm.2.2.2⟩ (atX_tame hn hpn hk hNB 8))
theorem sFld_flt {k s : Nat} (ht : t ≤ 900) (h : sFld b n B N t = Sum.inl (k, s)) : 1 ≤ k ∧ k < 6 ∧ s < 1000 := by
  unfold sFld at h
  rcases ifl h with ⟨_, e1, e2⟩ | ⟨_, h⟩
  · omega
  rcases ifl h with ⟨_, e1, e2⟩ | ⟨_, h⟩
  · omega
  rcases ifl h with ⟨_, e1, e2⟩ | ⟨_, h⟩
  · omega
  rcases ifl h with ⟨_, e1, e2⟩ | ⟨_, h⟩
  · omega
  rcases ifl h with ⟨_, e1, e2⟩ | ⟨_, h⟩
  · omega
  rcases ifl h with ⟨_, e1, e2⟩ | ⟨_, h⟩
  · omega
  rcases ifl h with ⟨_, e1, e2⟩ | ⟨_, h⟩
  · omega
  rcases ifl h with ⟨_, e1, e2⟩ | ⟨_, h⟩
  · omega
  exact (nlr h).elim
theorem sFld_ok {B' : BKD} {N' : NMD} {t' : Nat} (h : sFld b n B N t = Sum.inr (B', N', t')) (hNB : okNB B N) : okNB B' N' ∧ t' = t + 5 := by
  unfold sFld at h
  obtain ⟨_, h⟩ := ifr h
  obtain ⟨_, h⟩ := ifr h
  obtain ⟨_, h⟩ := ifr h
  obtain ⟨_, h⟩ := ifr h
  obtain ⟨_, h⟩ := ifr h
  obtain ⟨_, h⟩ := ifr h
  obtain ⟨_, h⟩ := ifr h
  obtain ⟨_, h⟩ := ifr h
  have h7 := Sum.inr.inj h
  have e1 := congrArg Prod.fst h7
  have e2 := congrArg (fun q => q.2.1) h7
  have e3 := congrArg (fun q => q.2.2) h7
  dsimp only at e1 e2 e3
  rw [← e1, ← e2, ← e3]
  exact ⟨okNB_fld hNB, rfl⟩
theorem sInF_flt {k s : Nat} (h : sInF b n N t = Sum.inl (k, s)) : 1 ≤ k ∧ k < 6 ∧ s ≤ t + 1 := by
  unfold sInF at h
  rcases ifl h with ⟨_, e1, e2⟩ | ⟨_, h⟩
  · omega
  rcases ifl h with ⟨_, e1, e2⟩ | ⟨_, h⟩
  · omega
  cases hf : fnN N (vl kwC b n (t + 1)) 0 with
  | none =>
    rw [hf] at h
    obtain ⟨z1, z2⟩ := inl_eq h
    omega
  | some f => rw [hf] at h; exact (nlr h).elim
theorem sTrm_flt {k s : Nat} (h : sTrm b n p m t = Sum.inl (k, s)) : 1 ≤ k ∧ k < 6 ∧ s ≤ t + 2 := by
  unfold sTrm at h
  rcases ifl h with ⟨_, e1, e2⟩ | ⟨_, h⟩
  · omega
  rcases ifl h with ⟨_, e1, e2⟩ | ⟨_, h⟩
  · omega
  rcases ifl h with ⟨_, e1, e2⟩ | ⟨_, h⟩
  · omega
  rcases ifl h with ⟨_, e1, e2⟩ | ⟨_, h⟩
  · omega
  rcases ifl h with ⟨_, e1, e2⟩ | ⟨_, h⟩
  · omega
  rcases ifl h with ⟨_, e1, e2⟩ | ⟨_, h⟩
  · omega
  exact (nlr h).elim
theorem sTms_flt : ∀ k m c u t, (∀ kk s, sTms b n p k m c u t = Sum.inl (kk, s) → 1 ≤ kk ∧ kk < 6 ∧ s ≤ t + 4 * k) ∧ ∀ m' c' u' t', sTms b n p k m c u t = Sum.inr (m', c', u', t') → t ≤ t' ∧ t' ≤ t + 4 * k := by
  intro k
  induction k with
  | zero =>
    intro m c u t
    refine ⟨fun kk s h => ?_, fun m' c' u' t' h => ?_⟩
    · unfold sTms at h
      obtain ⟨z1, z2⟩ := inl_eq h
      omega
    · unfold sTms at h; exact absurd h (by simp)
  | succ k ih =>
    intro m c u t
    cases hr : sTrm b n p m t with
    | inl e =>
      obtain ⟨e1, e2⟩ := e
      have := sTrm_flt hr
      refine ⟨fun kk s h => ?_, fun m' c' u' t' h => ?_⟩
      · unfold sTms at h
        rw [hr] at h
        obtain ⟨z1, z2⟩ := inl_eq h
        omega
      · unfold sTms at h; rw [hr] at h; exact absurd h (by simp)
    | inr xy =>
      obtain ⟨i1, i2⟩ := ih (m + 1) (addT c m xy.1) (addT u m xy.2) (t + 4)
      refine ⟨fun kk s h => ?_, fun m' c' u' t' h => ?_⟩
      · unfold sTms at h
        rw [hr] at h
        dsimp only at h
        by_cases hg : isG b n (t + 3) 44 = true
        · rw [if_pos hg] at h
          have := i1 _ _ h
          omega
        · rw [if_neg hg] at h; exact absurd h (by simp)
      · unfold sTms at h
        rw [hr] at h
        dsimp only at h
        by_cases hg : isG b n (t + 3) 44 = true
        · rw [if_pos hg] at h
          have := i2 _ _ _ _ h
          omega
        · rw [if_neg hg] at h
          have h7 := Sum.inr.inj h
          have e3 : t + 3 = t' := congrArg (fun q => q.2.2.2) h7
          omega
theorem sEqu_flt {k s : Nat} (ht : t ≤ 900) (h : sEqu b n B N t = Sum.inl (k, s)) : 1 ≤ k ∧ k < 6 ∧ s < 1000 := by
  unfold sEqu at h
  cases hi : sInF b n N (t + 2) with
  | inl e =>
    obtain ⟨e1, e2⟩ := e
    have := sInF_flt hi
    rw [hi] at h
    rcases ifl h with ⟨_, y1, y2⟩ | ⟨_, h⟩
    · omega
    rcases ifl h with ⟨_, y1, y2⟩ | ⟨_, h⟩
    · omega
    rcases ifl h with ⟨_, y1, y2⟩ | ⟨_, h⟩
    · omega
    obtain ⟨z1, z2⟩ := inl_eq h
    omega
  | inr ft =>
    rw [hi] at h
    dsimp only at h
    cases hm : sTms b n (bfp B ft.1) 5 0 (fun _ => 0) (fun _ => 0) (t + 5) with
    | inl e =>
      obtain ⟨e1, e2⟩ := e
      have := (sTms_flt 5 0 _ _ _).1 _ _ hm
      rw [hm] at h
      rcases ifl h with ⟨_, y1, y2⟩ | ⟨_, h⟩
      · omega
      rcases ifl h with ⟨_, y1, y2⟩ | ⟨_, h⟩
      · omega
      rcases ifl h with ⟨_, y1, y2⟩ | ⟨_, h⟩
      · omega
      rcases ifl h with ⟨_, y1, y2⟩ | ⟨_, h⟩
      · omega
      obtain ⟨z1, z2⟩ := inl_eq h
      omega
    | inr q =>
      obtain ⟨q1, q2, q3, q4⟩ := q
      have := (sTms_flt 5 0 _ _ _).2 _ _ _ _ hm
      rw [hm] at h
      dsimp only at h
      rcases ifl h with ⟨_, y1, y2⟩ | ⟨_, h⟩
      · omega
      rcases ifl h with ⟨_, y1, y2⟩ | ⟨_, h⟩
      · omega
      rcases ifl h with ⟨_, y1, y2⟩ | ⟨_, h⟩
      · omega
      rcases ifl h with ⟨_, y1, y2⟩ | ⟨_, h⟩
      · omega
      rcases ifl h with ⟨_, y1, y2⟩ | ⟨_, h⟩
      · omega
      rcases ifl h with ⟨_, y1, y2⟩ | ⟨_, h⟩
      · omega
      rcases ifl h with ⟨_, y1, y2⟩ | ⟨_, h⟩
      · omega
      exact (nlr h).elim
theorem sLetC_flt {k s : Nat} (hn : n ≤ 900) (hk : okB B) (hNB : okNB B N) (ht : t ≤ 900) (h : sLetC b n B N t = Sum.inl (k, s)) : 1 ≤ k ∧ k < 6 ∧ s < 1000 := by
  unfold sLetC at h
  cases hi : sInF b n N (t + 2) with
  | inl e =>
    obtain ⟨e1, e2⟩ := e
    have := sInF_flt hi
    rw [hi] at h
    rcases ifl h with ⟨_, y1, y2⟩ | ⟨_, h⟩
    · omega
    rcases ifl h with ⟨_, y1, y2⟩ | ⟨_, h⟩
    · omega
    rcases ifl h with ⟨_, y1, y2⟩ | ⟨_, h⟩
    · omega
    obtain ⟨z1, z2⟩ := inl_eq h
    omega
  | inr ft =>
    obtain ⟨f, ft2⟩ := ft
    have hf := fnN_ok hNB (sInF_f hi).1
    rw [hi] at h
    dsimp only at h
    by_cases c4 : isW b n (t + 4) 8 = false
    · rw [if_pos c4] at h
      rcases ifl h with ⟨_, y1, y2⟩ | ⟨_, h⟩
      · omega
      rcases ifl h with ⟨_, y1, y2⟩ | ⟨_, h⟩
      · omega
      rcases ifl h with ⟨_, y1, y2⟩ | ⟨_, h⟩
      · omega
      obtain ⟨z1, z2⟩ := inl_eq h
      omega
    rw [if_neg c4] at h
    have := tok_lt (b := b) (t := t + 4) hn (by have := isW_k ((Bool.not_eq_false _).mp c4); omega)
    cases hm : suX b n (bfp B f) (bfn B f) f B N (t + 5) false with
    | inl e =>
      obtain ⟨e1, e2⟩ := e
      have := suX_flt hn (hk.1.2 f hf) hk hNB _ _ _ _ (by omega) hm
      rw [hm] at h
      rcases ifl h with ⟨_, y1, y2⟩ | ⟨_, h⟩
      · omega
      rcases ifl h with ⟨_, y1, y2⟩ | ⟨_, h⟩
      · omega
      rcases ifl h with ⟨_, y1, y2⟩ | ⟨_, h⟩
      · omega
      obtain ⟨z1, z2⟩ := inl_eq h
      omega
    | inr q =>
      rw [hm] at h
      dsimp only at h
      rcases ifl h with ⟨_, y1, y2⟩ | ⟨_, h⟩
      · omega
      rcases ifl h with ⟨_, y1, y2⟩ | ⟨_, h⟩
      · omega
      rcases ifl h with ⟨_, y1, y2⟩ | ⟨_, h⟩
      · omega
      exact (nlr h).elim
theorem sLetC_t {B' : BKD} {N' : NMD} {t' : Nat} {H' : Bool} (hn : n ≤ 900) (hk : okB B) (hNB : okNB B N) (h : sLetC b n B N t = Sum.inr (B', N', t', H')) : t < t' ∧ t' ≤ 900 := by
  unfold sLetC at h
  cases hi : sInF b n N (t + 2) with
  | inl e =>
    rw [hi] at h
    obtain ⟨_, h⟩ := ifr h
    obtain ⟨_, h⟩ := ifr h
    obtain ⟨_, h⟩ := ifr h
    exact (nrl h).elim
  | inr ft =>
    obtain ⟨f, ft2⟩ := ft
    have hf := fnN_ok hNB (sInF_f hi).1
    rw [hi] at h
    dsimp only at h
    cases hm : suX b n (bfp B f) (bfn B f) f B N (t + 5) false with
    | inl e =>
      rw [hm] at h
      obtain ⟨_, h⟩ := ifr h
      obtain ⟨_, h⟩ := ifr h
      obtain ⟨_, h⟩ := ifr h
      obtain ⟨_, h⟩ := ifr h
      exact (nrl h).elim
    | inr q =>
      obtain ⟨q1, q2, q3⟩ := q
      have := (suX_tame hn (hk.1.2 f hf) hk hNB _ _ _ _ _ hm).1
      rw [hm] at h
      dsimp only at h
      obtain ⟨_, h⟩ := ifr h
      obtain ⟨_, h⟩ := ifr h
      obtain ⟨_, h⟩ := ifr h
      obtain ⟨_, h⟩ := ifr h
      have h7 := Sum.inr.inj h
      have e3 : q3 = t' := congrArg (fun q => q.2.2.1) h7
      omega
theorem sEqu_t {B' : BKD} {N' : NMD} {t' : Nat} (h : sEqu b n B N t = Sum.inr (B', N', t')) : t < t' ∧ t' ≤ t + 30 := by
  unfold sEqu at h
  cases hi : sInF b n N (t + 2) with
  | inl e =>
    rw [hi] at h
    obtain ⟨_, h⟩ := ifr h
    obtain ⟨_, h⟩ := ifr h
    obtain ⟨_, h⟩ := ifr h
    exact (nrl h).elim
  | inr ft =>
    rw [hi] at h
    dsimp only at h
    cases hm : sTms b n (bfp B ft.1) 5 0 (fun _ => 0) (fun _ => 0) (t + 5) with
    | inl e =>
      rw [hm] at h
      obtain ⟨_, h⟩ := ifr h
      obtain ⟨_, h⟩ := ifr h
      obtain ⟨_, h⟩ := ifr h
      obtain ⟨_, h⟩ := ifr h
      exact (nrl h).elim
    | inr q =>
      obtain ⟨q1, q2, q3, q4⟩ := q
      have := (sTms_flt 5 0 _ _ _).2 _ _ _ _ hm
      rw [hm] at h
      dsimp only at h
      obtain ⟨_, h⟩ := ifr h
      obtain ⟨_, h⟩ := ifr h
      obtain ⟨_, h⟩ := ifr h
      obtain ⟨_, h⟩ := ifr h
      obtain ⟨_, h⟩ := ifr h
      obtain ⟨_, h⟩ := ifr h
      obtain ⟨_, h⟩ := ifr h
      have h7 := Sum.inr.inj h
      have e3 : q4 + 2 = t' := congrArg (fun q => q.2.2) h7
      omega
end
