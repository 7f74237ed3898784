/-! ===== expressions: what they are ===== -/
abbrev EX : Type := (Nat × Nat) ⊕ ((Nat → Int64) × Bool × Nat)
def prL (b : Nat → Nat) (n m : Nat) (at' : Nat → Bool → EX) : Nat → (Nat → Int64) → Bool → Nat → EX
  | 0, _, _, t => Sum.inl (1, t)
  | k + 1, r, H, t => if isG b n t 42 = true then (match at' (t + 1) H with
      | Sum.inl e => Sum.inl e
      | Sum.inr q => prL b n m at' k (mul m r q.1) (q.2.1 || hug 10 (mul m r q.1)) q.2.2) else Sum.inr (r, H, t)
def prF (b : Nat → Nat) (n m : Nat) (at' : Nat → Bool → EX) (t : Nat) (H : Bool) : EX := match at' t H with
  | Sum.inl e => Sum.inl e
  | Sum.inr q => prL b n m at' 901 q.1 q.2.1 q.2.2
def adt (r q : Nat → Int64) (less : Bool) : Nat → Int64 := fun i => r i + (if less = true then (-1 : Int64) else 1) * q i
def suL (b : Nat → Nat) (n : Nat) (pr : Nat → Bool → EX) : Nat → (Nat → Int64) → Bool → Nat → EX
  | 0, _, _, t => Sum.inl (1, t)
  | k + 1, r, H, t => if (isG b n t 45 || isG b n t 43) = true then (match pr (t + 1) H with
      | Sum.inl e => Sum.inl e
      | Sum.inr q => suL b n pr k (adt r q.1 (isG b n t 45)) (q.2.1 || hug 10 (adt r q.1 (isG b n t 45))) q.2.2) else Sum.inr (r, H, t)
def suF (b : Nat → Nat) (n : Nat) (pr : Nat → Bool → EX) (t : Nat) (H : Bool) : EX := match pr t H with
  | Sum.inl e => Sum.inl e
  | Sum.inr q => suL b n pr 901 q.1 q.2.1 q.2.2
def unt (m w : Nat) : Bool := unit m (w : Int)
/-- what is no bracket, conj, turn -/
def at0 (b : Nat → Nat) (n p m f : Nat) (B : BKD) (N : NMD) (dp : EX) (t : Nat) (H : Bool) : EX :=
  if kd' kwC b n t = 2 then Sum.inr (wu (zn (whN b n t)).toInt64, H, t + 1)
  else if kd' kwC b n t = 5 then (match fnN N (vl kwC b n t) 2 with
    | none => Sum.inl (2, t)
    | some l => if blf B l = f then Sum.inr (blr B l, H, t + 1) else Sum.inl (2, t))
  else if isW b n t 9 = true then
    (if kd' kwC b n (t + 1) ≠ 2 then Sum.inl (1, t + 1) else if inR b n (t + 1) 0 99 = false then Sum.inl (4, t + 1) else Sum.inr (zpw m (whN b n (t + 1)), H, t + 2))
  else if isW b n t 10 = true then
    (if kd' kwC b n (t + 1) ≠ 2 then Sum.inl (1, t + 1) else if inR b n (t + 1) 0 (m - 1) = false then Sum.inl (4, t + 1)
    else if isG b n (t + 2) 44 = false then Sum.inl (1, t + 2)
    else if kd' kwC b n (t + 3) ≠ 2 then Sum.inl (1, t + 3) else if inR b n (t + 3) 0 (m - 1) = false then Sum.inl (4, t + 3)
    else Sum.inr (jac p m (whN b n (t + 1)) (whN b n (t + 3)), H, t + 4))
  else dp
def dp0 (b : Nat → Nat) (n t : Nat) : EX := if (isG b n t 40 || isW b n t 12 || isW b n t 11) = true then Sum.inl (5, t) else Sum.inl (1, t)
def tnR (m w : Nat) (e : EX) : EX := match e with
  | Sum.inl e => Sum.inl e
  | Sum.inr q => Sum.inr (tun m w q.1, q.2.1 || hug 10 (tun m w q.1), q.2.2)
def dpS (b : Nat → Nat) (n m : Nat) (at' : Nat → Bool → EX) (t : Nat) (H : Bool) : EX :=
  if isG b n t 40 = true then (match suF b n (prF b n m at') (t + 1) H with
    | Sum.inl e => Sum.inl e
    | Sum.inr q => if isG b n q.2.2 41 = true then Sum.inr (q.1, q.2.1, q.2.2 + 1) else Sum.inl (1, q.2.2))
  else if isW b n t 12 = true then
    (if kd' kwC b n (t + 1) ≠ 2 then Sum.inl (1, t + 1) else if unt m (whN b n (t + 1)) = false then Sum.inl (4, t + 1) else tnR m (whN b n (t + 1)) (at' (t + 2) H))
  else if isW b n t 11 = true then tnR m (m - 1) (at' (t + 1) H)
  else Sum.inl (1, t)
def atX (b : Nat → Nat) (n p m f : Nat) (B : BKD) (N : NMD) : Nat → Nat → Bool → EX
  | 0, t, H => at0 b n p m f B N (dp0 b n t) t H
  | k + 1, t, H => at0 b n p m f B N (dpS b n m (fun t H => atX b n p m f B N k t H) t H) t H
/-- what an expression's row is like -/
def Tame (g : Nat → Bool → EX) : Prop := ∀ t H r H' t', g t H = Sum.inr (r, H', t') → (t < t' ∧ t' ≤ 900) ∧ (∀ i, 10 ≤ i → r i = 0) ∧ (H' = false → hug 10 r = false ∧ H = false)
section
variable {β : Type} {kw : Nat → Int64} {K : List (Nat × Nat)} {I I' : Nat → Nat → Int32} {J J' : Nat → Nat → Int64} {A : Nat → Nat → Option Nat} {w : WD}
variable {b : Nat → Nat} {n t m p f : Nat} {B : BKD} {N : NMD} {at' : Nat → Bool → EX}
theorem tok_lt (hn : n ≤ 900) (h : kd' kwC b n t ≠ 0) : t < 900 := by
  have h1 := kd_lt h
  have h2 := ps_mono t h1
  omega
theorem mul_hi {r q : Nat → Int64} (hm : 2 ≤ m ∧ m ≤ 12) : ∀ i, 10 ≤ i → mul m r q i = 0 := fun i hi => res_hi (by have := phi_rng hm.1 hm.2; omega)
theorem prL_tame (hn : n ≤ 900) (hm : 2 ≤ m ∧ m ≤ 12) (hT : Tame at') : ∀ k r H t, (∀ i, 10 ≤ i → r i = 0) → t ≤ 900 → (H = false → hug 10 r = false) → ∀ r' H' t', prL b n m at' k r H t = Sum.inr (r', H', t') → (t ≤ t' ∧ t' ≤ 900) ∧ (∀ i, 10 ≤ i → r' i = 0) ∧ (H' = false → hug 10 r' = false ∧ H = false) := by
  intro k
  induction k with
  | zero => intro r H t _ _ _ r' H' t' h; unfold prL at h; exact absurd h (by simp)
  | succ k ih =>
    intro r H t hr ht hh r' H' t' h
    unfold prL at h
    by_cases hg : isG b n t 42 = true
    · rw [if_pos hg] at h
      cases ha : at' (t + 1) H with
      | inl e => rw [ha] at h; exact absurd h (by simp)
      | inr q =>
        obtain ⟨q1, q2, q3⟩ := q
        rw [ha] at h
        dsimp only at h
        obtain ⟨⟨z1, z2⟩, z3, z4⟩ := hT _ _ _ _ _ ha
        obtain ⟨⟨y1, y2⟩, y3, y4⟩ := ih _ _ _ (mul_hi hm) z2 (fun e => (Bool.or_eq_false_iff.mp e).2) _ _ _ h
        refine ⟨⟨by omega, y2⟩, y3, fun e => ⟨(y4 e).1, ?_⟩⟩
        have := (y4 e).2
        exact (z4 (Bool.or_eq_false_iff.mp this).1).2
    · rw [if_neg hg] at h
      have h7 := Sum.inr.inj h
      have e1 : r = r' := congrArg Prod.fst h7
      have e2 : H = H' := congrArg (fun q => q.2.1) h7
      have e3 : t = t' := congrArg (fun q => q.2.2) h7
      subst e1; subst e2; subst e3
      exact ⟨⟨by omega, ht⟩, hr, fun e => ⟨hh e, e⟩⟩
theorem prF_tame (hn : n ≤ 900) (hm : 2 ≤ m ∧ m ≤ 12) (hT : Tame at') : Tame (prF b n m at') := by
  intro t H r H' t' h
  unfold prF at h
  cases ha : at' t H with
  | inl e => rw [ha] at h; exact absurd h (by simp)
  | inr q =>
    obtain ⟨q1, q2, q3⟩ := q
    rw [ha] at h
    dsimp only at h
    obtain ⟨⟨z1, z2⟩, z3, z4⟩ := hT _ _ _ _ _ ha
    obtain ⟨⟨y1, y2⟩, y3, y4⟩ := prL_tame hn hm hT _ _ _ _ z3 z2 (fun e => (z4 e).1) _ _ _ h
    exact ⟨⟨by omega, y2⟩, y3, fun e => ⟨(y4 e).1, (z4 (y4 e).2).2⟩⟩
theorem adt_hi {r q : Nat → Int64} {l : Bool} (hr : ∀ i, 10 ≤ i → r i = 0) (hq : ∀ i, 10 ≤ i → q i = 0) : ∀ i, 10 ≤ i → adt r q l i = 0 := fun i hi => by
  unfold adt
  rw [hr i hi, hq i hi]
  cases l <;> decide
theorem suL_tame {pr : Nat → Bool → EX} (hn : n ≤ 900) (hT : Tame pr) : ∀ k r H t, (∀ i, 10 ≤ i → r i = 0) → t ≤ 900 → (H = false → hug 10 r = false) → ∀ r' H' t', suL b n pr k r H t = Sum.inr (r', H', t') → (t ≤ t' ∧ t' ≤ 900) ∧ (∀ i, 10 ≤ i → r' i = 0) ∧ (H' = false → hug 10 r' = false ∧ H = false) := by
  intro k
  induction k with
  | zero => intro r H t _ _ _ r' H' t' h; unfold suL at h; exact absurd h (by simp)
  | succ k ih =>
    intro r H t hr ht hh r' H' t' h
    unfold suL at h
    by_cases hg : (isG b n t 45 || isG b n t 43) = true
    · rw [if_pos hg] at h
      cases ha : pr (t + 1) H with
      | inl e => rw [ha] at h; exact absurd h (by simp)
      | inr q =>
        obtain ⟨q1, q2, q3⟩ := q
        rw [ha] at h
        dsimp only at h
        obtain ⟨⟨z1, z2⟩, z3, z4⟩ := hT _ _ _ _ _ ha
        obtain ⟨⟨y1, y2⟩, y3, y4⟩ := ih _ _ _ (adt_hi hr z3) z2 (fun e => (Bool.or_eq_false_iff.mp e).2) _ _ _ h
        refine ⟨⟨by omega, y2⟩, y3, fun e => ⟨(y4 e).1, ?_⟩⟩
        have := (y4 e).2
        exact (z4 (Bool.or_eq_false_iff.mp this).1).2
    · rw [if_neg hg] at h
      have h7 := Sum.inr.inj h
      have e1 : r = r' := congrArg Prod.fst h7
      have e2 : H = H' := congrArg (fun q => q.2.1) h7
      have e3 : t = t' := congrArg (fun q => q.2.2) h7
      subst e1; subst e2; subst e3
      exact ⟨⟨by omega, ht⟩, hr, fun e => ⟨hh e, e⟩⟩
theorem suF_tame {pr : Nat → Bool → EX} (hn : n ≤ 900) (hT : Tame pr) : Tame (suF b n pr) := by
  intro t H r H' t' h
  unfold suF at h
  cases ha : pr t H with
  | inl e => rw [ha] at h; exact absurd h (by simp)
  | inr q =>
    obtain ⟨q1, q2, q3⟩ := q
    rw [ha] at h
    dsimp only at h
    obtain ⟨⟨z1, z2⟩, z3, z4⟩ := hT _ _ _ _ _ ha
    obtain ⟨⟨y1, y2⟩, y3, y4⟩ := suL_tame hn hT _ _ _ _ z3 z2 (fun e => (z4 e).1) _ _ _ h
    exact ⟨⟨by omega, y2⟩, y3, fun e => ⟨(y4 e).1, (z4 (y4 e).2).2⟩⟩
theorem wu_hug {w : Nat} (hw : w ≤ 999) (M : Nat) : hug M (wu (zn w).toInt64) = false := hug_small (fun i _ => by
  unfold wu
  by_cases h : i = 0
  · rw [if_pos h, zn_i64 (by omega)]; omega
  · rw [if_neg h, show (0 : Int64).toInt = 0 from rfl]; omega)
theorem zpw_hug {e : Nat} (hm : 2 ≤ m ∧ m ≤ 12) (M : Nat) : hug M (zpw m e) = false := hug_small (fun i _ => by
  have hw : bw 199 (adw wz (e % m) 1) := fun i => by
    unfold adw setf wz
    by_cases h : i = e % m
    · rw [if_pos h]; decide
    · rw [if_neg h]; decide
  have := res_bw hm.1 hm.2 hw i
  unfold zpw
  omega)
theorem at0_tame {dp : Nat → Bool → EX} (hn : n ≤ 900) (hpn : pn p m) (hk : okB B) (hNB : okNB B N) (hT : Tame dp) : Tame (fun t H => at0 b n p m f B N (dp t H) t H) := by
  intro t H r H' t' h
  obtain ⟨_, _, hm1, hm2⟩ := pn_rng hpn
  have hph := phi_rng hm1 hm2
  have h' : at0 b n p m f B N (dp t H) t H = Sum.inr (r, H', t') := h
  unfold at0 at h'
  have fin : ∀ {r0 : Nat → Int64} {d : Nat}, (Sum.inr (r0, H, t + d) : EX) = Sum.inr (r, H', t') → 1 ≤ d → t + d ≤ 900 → (∀ i, 10 ≤ i → r0 i = 0) → hug 10 r0 = false → (t < t' ∧ t' ≤ 900) ∧ (∀ i, 10 ≤ i → r i = 0) ∧ (H' = false → hug 10 r = false ∧ H = false) := by
    intro r0 d e hd hd2 hr hh
    have h7 := Sum.inr.inj e
    have e1 : r0 = r := congrArg Prod.fst h7
    have e2 : H = H' := congrArg (fun q => q.2.1) h7
    have e3 : t + d = t' := congrArg (fun q => q.2.2) h7
    subst e1; subst e2; subst e3
    exact ⟨⟨by omega, hd2⟩, hr, fun e => ⟨hh, e⟩⟩
  by_cases c1 : kd' kwC b n t = 2
  · rw [if_pos c1] at h'
    have := tok_lt (b := b) (t := t) hn (by omega)
    exact fin h' (by omega) (by omega) (fun i hi => if_neg (by omega)) (wu_hug (wh_ok c1).2 10)
  rw [if_neg c1] at h'
  by_cases c2 : kd' kwC b n t = 5
  · rw [if_pos c2] at h'
    have := tok_lt (b := b) (t := t) hn (by omega)
    cases hf : fnN N (vl kwC b n t) 2 with
    | none => rw [hf] at h'; exact absurd h' (by simp)
    | some l =>
      rw [hf] at h'
      dsimp only at h'
      by_cases c3 : blf B l = f
      · rw [if_pos c3] at h'
        have hl : l < bnl B := by
          unfold fnN at hf
          cases hr : rk N (vl kwC b n t) with
          | none => rw [hr] at hf; exact absurd hf (by simp)
          | some k =>
            rw [hr] at hf
            dsimp only at hf
            by_cases hs : (N.2 k).2.1 = 2
            · rw [if_pos hs] at hf
              have e : (N.2 k).2.2 = l := by simpa using hf
              rw [← e]
              exact (hNB k (rk_lt hr)).2.2 hs
            · rw [if_neg hs] at hf; exact absurd hf (by simp)
        obtain ⟨_, o1, o2⟩ := hk.2.2.2 l hl
        exact fin h' (by omega) (by omega) o1 o2
      · rw [if_neg c3] at h'; exact absurd h' (by simp)
  rw [if_neg c2] at h'
  by_cases c3 : isW b n t 9 = true
  · rw [if_pos c3] at h'
    by_cases c4 : kd' kwC b n (t + 1) ≠ 2
    · rw [if_pos c4] at h'; exact absurd h' (by simp)
    rw [if_neg c4] at h'
    by_cases c5 : inR b n (t + 1) 0 99 = false
    · rw [if_pos c5] at h'; exact absurd h' (by simp)
    rw [if_neg c5] at h'
    have := tok_lt (b := b) (t := t + 1) hn (by omega)
    exact fin h' (by omega) (by omega) (fun i hi => res_hi (by omega)) (zpw_hug ⟨hm1, hm2⟩ 10)
  rw [if_neg c3] at h'
  by_cases c4 : isW b n t 10 = true
  · rw [if_pos c4] at h'
    by_cases c5 : kd' kwC b n (t + 1) ≠ 2
    · rw [if_pos c5] at h'; exact absurd h' (by simp)
    rw [if_neg c5] at h'
    by_cases c6 : inR b n (t + 1) 0 (m - 1) = false
    · rw [if_pos c6] at h'; exact absurd h' (by simp)
    rw [if_neg c6] at h'
    by_cases c7 : isG b n (t + 2) 44 = false
    · rw [if_pos c7] at h'; exact absurd h' (by simp)
    rw [if_neg c7] at h'
    by_cases c8 : kd' kwC b n (t + 3) ≠ 2
    · rw [if_pos c8] at h'; exact absurd h' (by simp)
    rw [if_neg c8] at h'
    by_cases c9 : inR b n (t + 3) 0 (m - 1) = false
    · rw [if_pos c9] at h'; exact absurd h' (by simp)
    rw [if_neg c9] at h'
    have := tok_lt (b := b) (t := t + 3) hn (by omega)
    exact fin h' (by omega) (by omega) (fun i hi => res_hi (by omega)) (jac_hug hpn 10)
  rw [if_neg c4] at h'
  exact hT _ _ _ _ _ h'
theorem tnR_tame {w d : Nat} {H : Bool} (hm : 2 ≤ m ∧ m ≤ 12) (hT : Tame at') : ∀ r H' t', tnR m w (at' (t + d) H) = Sum.inr (r, H', t') → (t + d < t' ∧ t' ≤ 900) ∧ (∀ i, 10 ≤ i → r i = 0) ∧ (H' = false → hug 10 r = false ∧ H = false) := by
  intro r H' t' h
  unfold tnR at h
  cases ha : at' (t + d) H with
  | inl e => rw [ha] at h; exact absurd h (by simp)
  | inr q =>
    obtain ⟨q1, q2, q3⟩ := q
    rw [ha] at h
    dsimp only at h
    obtain ⟨⟨z1, z2⟩, z3, z4⟩ := hT _ _ _ _ _ ha
    have h7 := Sum.inr.inj h
    have e1 : tun m w q1 = r := congrArg Prod.fst h7
    have e2 : (q2 || hug 10 (tun m w q1)) = H' := congrArg (fun q => q.2.1) h7
    have e3 : q3 = t' := congrArg (fun q => q.2.2) h7
    subst e1; subst e2; subst e3
    exact ⟨⟨z1, z2⟩, fun i hi => res_hi (by have := phi_rng hm.1 hm.2; omega), fun e => ⟨(Bool.or_eq_false_iff.mp e).2, (z4 (Bool.or_eq_false_iff.mp e).1).2⟩⟩
theorem dpS_tame (hn : n ≤ 900) (hm : 2 ≤ m ∧ m ≤ 12) (hT : Tame at') : Tame (dpS b n m at') := by
  intro t H r H' t' h
  unfold dpS at h
  by_cases c1 : isG b n t 40 = true
  · rw [if_pos c1] at h
    cases ha : suF b n (prF b n m at') (t + 1) H with
    | inl e => rw [ha] at h; exact absurd h (by simp)
    | inr q =>
      obtain ⟨q1, q2, q3⟩ := q
      rw [ha] at h
      dsimp only at h
      obtain ⟨⟨z1, z2⟩, z3, z4⟩ := suF_tame hn (prF_tame hn hm hT) _ _ _ _ _ ha
      by_cases c2 : isG b n q3 41 = true
      · rw [if_pos c2] at h
        have h7 := Sum.inr.inj h
        have e1 : q1 = r := congrArg Prod.fst h7
        have e2 : q2 = H' := congrArg (fun q => q.2.1) h7
        have e3 : q3 + 1 = t' := congrArg (fun q => q.2.2) h7
        subst e1; subst e2; subst e3
        have := tok_lt (b := b) (t := q3) hn (by have := isG_k c2; omega)
        exact ⟨⟨by omega, by omega⟩, z3, z4⟩
      · rw [if_neg c2] at h; exact absurd h (by simp)
  rw [if_neg c1] at h
  by_cases c2 : isW b n t 12 = true
  · rw [if_pos c2] at h
    by_cases c5 : kd' kwC b n (t + 1) ≠ 2
    · rw [if_pos c5] at h; exact absurd h (by simp)
    rw [if_neg c5] at h
    by_cases c6 : unt m (whN b n (t + 1)) = false
    · rw [if_pos c6] at h; exact absurd h (by simp)
    rw [if_neg c6] at h
    obtain ⟨⟨z1, z2⟩, z3, z4⟩ := tnR_tame hm hT _ _ _ h
    exact ⟨⟨by omega, z2⟩, z3, z4⟩
  rw [if_neg c2] at h
  by_cases c3 : isW b n t 11 = true
  · rw [if_pos c3] at h
    obtain ⟨⟨z1, z2⟩, z3, z4⟩ := tnR_tame hm hT _ _ _ h
    exact ⟨⟨by omega, z2⟩, z3, z4⟩
  rw [if_neg c3] at h
  exact absurd h (by simp)
theorem atX_tame (hn : n ≤ 900) (hpn : pn p m) (hk : okB B) (hNB : okNB B N) : ∀ k, Tame (atX b n p m f B N k) := by
  intro k
  have hm := pn_rng hpn
  induction k with
  | zero =>
    refine at0_tame (dp := fun t _ => dp0 b n t) hn hpn hk hNB ?_
    intro t H r H' t' h
    have h' : dp0 b n t = Sum.inr (r, H', t') := h
    unfold dp0 at h'
    split at h' <;> exact absurd h' (by simp)
  | succ k ih => exact at0_tame (dp := dpS b n m (fun t H => atX b n p m f B N k t H)) hn hpn hk hNB (dpS_tame hn ⟨hm.2.2.1, hm.2.2.2⟩ ih)
end
