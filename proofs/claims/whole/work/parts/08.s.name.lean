/-! ===== a book's names ===== -/
/-- so many names; of each: the word, its sort (field 0, equation 1, let 2), its number -/
abbrev NMD : Type := Nat × (Nat → Int64 × Nat × Nat)
def rk (N : NMD) (v : Int64) : Option Nat := fd (fun k => (N.2 k).1 == v) N.1 0
def okN (N : NMD) : Prop := N.1 ≤ 16 ∧ ∀ k, k < N.1 → (N.2 k).2.1 < 3 ∧ (N.2 k).2.2 < 8
def addN (N : NMD) (v : Int64) (s m : Nat) : NMD := (N.1 + 1, fun k => if k = N.1 then (v, s, m) else N.2 k)
/-- the number of what bears the name, if it is of that sort -/
def fnN (N : NMD) (v : Int64) (s : Nat) : Option Nat := match rk N v with
  | some k => if (N.2 k).2.1 = s then some (N.2 k).2.2 else none
  | none => none
def NmC (I : Nat → Nat → Int32) (J : Nat → Nat → Int64) (b : Nat) (N : NMD) : Prop := I b 10 = zn N.1 ∧ ∀ k, k < N.1 → J (b + 13) k = (N.2 k).1 ∧ I (b + 14) k = zn ((N.2 k).2.1 + 1) ∧ I (b + 15) k = zn (N.2 k).2.2
def NmR (I : Nat → Nat → Int32) (J : Nat → Nat → Int64) (b : Nat) (N : NMD) : Prop := I b 3 = zn N.1 ∧ ∀ k, k < N.1 → J (b + 9) k = (N.2 k).1 ∧ I (b + 10) k = zn (N.2 k).2.1 ∧ I (b + 11) k = zn (N.2 k).2.2
theorem rk_lt {N : NMD} {v : Int64} {k : Nat} (h : rk N v = some k) : k < N.1 := by
  have := fd_lt _ _ h
  omega
theorem addN_ok {N : NMD} {v : Int64} {s m : Nat} (h : okN N) (h1 : N.1 < 16) (hs : s < 3) (hm : m < 8) : okN (addN N v s m) := by
  refine ⟨by show N.1 + 1 ≤ 16; omega, fun k hk => ?_⟩
  have hk' : k < N.1 + 1 := hk
  show ((if k = N.1 then (v, s, m) else N.2 k) : Int64 × Nat × Nat).2.1 < 3 ∧ ((if k = N.1 then (v, s, m) else N.2 k) : Int64 × Nat × Nat).2.2 < 8
  by_cases h2 : k = N.1
  · rw [if_pos h2]; exact ⟨hs, hm⟩
  · rw [if_neg h2]; exact h.2 k (by omega)
section
variable {β : Type} {kw : Nat → Int64} {K : List (Nat × Nat)} {I I' : Nat → Nat → Int32} {J J' : Nat → Nat → Int64} {A : Nat → Nat → Option Nat} {w : WD}
theorem t_rankOf {b : Nat} {N : NMD} {v : Int64} (hB : CBS K A b) (hC : NmC I J b N) (hN : okN N) : f_X0_rankOf (some b) v (K, I, J, A) = some ((match rk N v with | some k => zn k | none => -1), (K, I, J, A)) := by
  apply wp_get
  obtain ⟨b0, ⟨a0, a1, a2, a3, a4, a5, a6⟩, ⟨k1, k2, k3, k12, k13, k14, k15⟩, _⟩ := hB
  have hN1 := hN.1
  unfold f_X0_rankOf f_X0_rankOf_l2
  refine pf1 (N := N.1) (fun k => ∀ i, 0 ≤ i → i < k → ((N.2 i).1 == v) = false) ?_ ?_ (k := 0) (by omega) (by unfold fuel; omega) (fun i _ hi => by omega)
  · intro k R hk' hno hR
    unfold f_X0_rankOf_b2
    refine b_getIv b0 hC.1 (wp_ifn (ge_f (by omega)) (b_getA b0 a4 (b_len k13 (by decide) (wp_ifn (ge_f (by omega)) (b_getA b0 a4 (b_ldJ k13 (by omega) (by omega) ?_))))))
    rw [(hC.2 k hk').1]
    by_cases h1 : (N.2 k).1 = v
    · refine wp_ifn (fun q => q h1) (wp_rt ⟨?_, rfl⟩)
      unfold rk
      rw [fd_some (y := k) (by simp [h1]) N.1 0 (by omega) (by omega) (fun i h1 h2 => hno i h1 h2)]
    · refine wp_ifp h1 (hR (fun i _ hi => ?_))
      by_cases h2 : i = k
      · subst h2; simp [h1]
      · exact hno i (by omega) (by omega)
  · intro R hno
    unfold f_X0_rankOf_b2
    refine b_getIv b0 hC.1 (wp_ifp (ge_t (by omega)) (wp_rt ⟨?_, rfl⟩))
    unfold rk
    rw [fd_none N.1 0 (fun i h1 h2 => hno i h1 (by omega))]
theorem t_knows {b : Nat} {N : NMD} {v : Int64} (hB : CBS K A b) (hC : NmC I J b N) (hN : okN N) : f_X0_knows (some b) v (K, I, J, A) = some (b01 (rk N v).isSome, (K, I, J, A)) := by
  apply wp_get
  unfold f_X0_knows
  refine b_ck hB.1 (b_eq (t_rankOf hB hC hN) ?_)
  have hN1 := hN.1
  cases h : rk N v with
  | some k =>
    have := rk_lt h
    exact wp_ifn (lt_f (b := 0) (by omega)) (wp_rt ⟨rfl, rfl⟩)
  | none => exact wp_ifp (by decide) (wp_rt ⟨rfl, rfl⟩)
theorem t_find {b s : Nat} {N : NMD} {v : Int64} (hB : CBS K A b) (hC : NmC I J b N) (hN : okN N) (hs : s < 3) : f_X0_find (some b) v (zn (s + 1)) (K, I, J, A) = some ((match fnN N v s with | some m => zn m | none => -1), (K, I, J, A)) := by
  apply wp_get
  have hB' := hB
  obtain ⟨b0, ⟨a0, a1, a2, a3, a4, a5, a6⟩, ⟨k1, k2, k3, k12, k13, k14, k15⟩, _⟩ := hB'
  unfold f_X0_find fnN
  refine b_ck hB.1 (b_eq (t_rankOf hB hC hN) ?_)
  have hN1 := hN.1
  cases h : rk N v with
  | some k =>
    have hk := rk_lt h
    obtain ⟨x1, x2, x3⟩ := hC.2 k hk
    have hok := hN.2 k hk
    refine wp_ifn (lt_f (b := 0) (by omega)) (b_getA b0 a5 (b_eq (t_cellp k14 (by omega) (by omega)) ?_))
    rw [x2]
    refine wp_ifq (not_congr (zn_inj (by omega) (by omega))) ?_
    by_cases h1 : (N.2 k).2.1 = s
    · refine wp_ifn (fun q => q (by omega)) (b_getA b0 a6 (b_eq (t_cellp k15 (by omega) (by omega)) (wp_rt ⟨?_, rfl⟩)))
      show _ = (match (if (N.2 k).2.1 = s then some (N.2 k).2.2 else none) with | some m => zn m | none => -1)
      rw [if_pos h1, x3]
    · refine wp_ifp (by omega) (wp_rt ⟨?_, rfl⟩)
      show _ = (match (if (N.2 k).2.1 = s then some (N.2 k).2.2 else none) with | some m => zn m | none => -1)
      rw [if_neg h1]
  | none => exact wp_ifp (by decide) (wp_rt ⟨rfl, rfl⟩)
theorem t_tell {Q : Unit → Hp → Prop} {b s m : Nat} {N : NMD} {v : Int64} (hb : 64 ≤ b) (hB : CBS K A b) (hC : NmC I J b N) (h1 : N.1 < 16)
    (q : ∀ I' J', (∀ x, x ≠ b → x ≠ b + 14 → x ≠ b + 15 → I' x = I x) → (∀ j, j ≠ 10 → I' b j = I b j) → (∀ x, x ≠ b + 13 → J' x = J x) → NmC I' J' b (addN N v s m) → Q () (K, I', J', A)) : wp (f_X0_tell (some b) v (zn (s + 1)) (zn m)) Q (K, I, J, A) := by
  obtain ⟨b0, ⟨a0, a1, a2, a3, a4, a5, a6⟩, ⟨k1, k2, k3, k12, k13, k14, k15⟩, _⟩ := hB
  unfold f_X0_tell
  refine b_getA b0 a4 (b_getIv b0 hC.1 (b_eq (t_put k13 (by omega) (by omega) (by omega)) (b_getA b0 a5 (b_getIv b0 hC.1 (b_eq (t_mark k14 (by omega) (by omega) (by omega)) (b_getA b0 a6 (b_getIv b0 ((st2_na (by omega)).trans hC.1) (b_eq (t_mark k15 (by omega) (by omega) (by omega)) (b_getIv b0 ((st2_na (by omega)).trans ((st2_na (by omega)).trans hC.1)) (b_putI b0 hb (wp_rt ?_)))))))))))
  rw [zn_succ]
  refine q _ _ (fun x x1 x2 x3 => by rw [st2_nb x1, st2_nb x3, st2_nb x2]) (fun j hj => by rw [st2_nk hj, st2_na (by omega), st2_na (by omega)]) (fun x hx => st2_nb hx) ⟨st2_at, fun k hk => ?_⟩
  have hk' : k < N.1 + 1 := hk
  show _ = ((if k = N.1 then (v, s, m) else N.2 k) : Int64 × Nat × Nat).1 ∧ _ = zn (((if k = N.1 then (v, s, m) else N.2 k) : Int64 × Nat × Nat).2.1 + 1) ∧ _ = zn ((if k = N.1 then (v, s, m) else N.2 k) : Int64 × Nat × Nat).2.2
  by_cases h2 : k = N.1
  · rw [if_pos h2, h2]
    refine ⟨st2_at, ?_, ?_⟩
    · rw [st2_na (by omega), st2_na (by omega), st2_at]
    · rw [st2_na (by omega), st2_at]
  · rw [if_neg h2]
    obtain ⟨x1, x2, x3⟩ := hC.2 k (by omega)
    refine ⟨by rw [st2_nk h2]; exact x1, ?_, ?_⟩
    · rw [st2_na (by omega), st2_na (by omega), st2_nk h2]; exact x2
    · rw [st2_na (by omega), st2_nk h2, st2_na (by omega)]; exact x3
theorem t_findR {b : Nat} {N : NMD} {v : Int64} (hB : BS K A b) (hC : NmR I J b N) (hN : okN N) : f_X11_find (some b) v (K, I, J, A) = some ((match rk N v with | some k => zn k | none => -1), (K, I, J, A)) := by
  apply wp_get
  have hN1 := hN.1
  have a12 := hB.2.1.2.2.2.2.2.2.2.2.1
  have k9 := hB.2.2.1.2.2.2.2.2.2.2.2.1
  unfold f_X11_find f_X11_find_l2
  refine pf1 (N := N.1) (fun k => ∀ i, 0 ≤ i → i < k → ((N.2 i).1 == v) = false) ?_ ?_ (k := 0) (by omega) (by unfold fuel; omega) (fun i _ hi => by omega)
  · intro k R hk' hno hR
    unfold f_X11_find_b2
    refine b_getIv hB.1 hC.1 (wp_ifn (ge_f (by omega)) (b_getA hB.1 a12 (b_ldJ k9 (by omega) (by omega) ?_)))
    rw [(hC.2 k hk').1]
    by_cases h1 : (N.2 k).1 = v
    · refine wp_ifn (fun q => q h1) (wp_rt ⟨?_, rfl⟩)
      unfold rk
      rw [fd_some (y := k) (by simp [h1]) N.1 0 (by omega) (by omega) (fun i h1 h2 => hno i h1 h2)]
    · refine wp_ifp h1 (hR (fun i _ hi => ?_))
      by_cases h2 : i = k
      · subst h2; simp [h1]
      · exact hno i (by omega) (by omega)
  · intro R hno
    unfold f_X11_find_b2
    refine b_getIv hB.1 hC.1 (wp_ifp (ge_t (by omega)) (wp_rt ⟨?_, rfl⟩))
    unfold rk
    rw [fd_none N.1 0 (fun i h1 h2 => hno i h1 (by omega))]
theorem t_names {Q : Unit → Hp → Prop} {b s m : Nat} {N : NMD} {v : Int64} (hM : MS K A 224) (h4 : A 224 4 = some b) (hB : BS K A b) (hC : NmR I J b N) (h1 : N.1 < 16)
    (q : ∀ I' J', (∀ x, x ≠ b → x ≠ b + 10 → x ≠ b + 11 → I' x = I x) → (∀ j, j ≠ 3 → I' b j = I b j) → (∀ x, x ≠ b + 9 → J' x = J x) → NmR I' J' b (addN N v s m) → Q () (K, I', J', A)) : wp (f_X13_names (some 224) v (zn s) (zn m)) Q (K, I, J, A) := by
  have a12 := hB.2.1.2.2.2.2.2.2.2.2.1
  have a13 := hB.2.1.2.2.2.2.2.2.2.2.2.1
  have a14 := hB.2.1.2.2.2.2.2.2.2.2.2.2
  have k9 := hB.2.2.1.2.2.2.2.2.2.2.2.1
  have k10 := hB.2.2.1.2.2.2.2.2.2.2.2.2.1
  have k11 := hB.2.2.1.2.2.2.2.2.2.2.2.2.2
  have hb := hB.2.2.2
  unfold f_X13_names
  refine b_getA hM.1 h4 (b_getA hB.1 a12 (b_getA hM.1 h4 (b_getIv hB.1 hC.1 (b_stJ k9 (by omega) (by omega) (by omega) (b_getA hM.1 h4 (b_getA hB.1 a13 (b_getA hM.1 h4 (b_getIv hB.1 hC.1 (b_stI k10 (by omega) (by omega) (by omega) (b_getA hM.1 h4 (b_getA hB.1 a14 (b_getA hM.1 h4 (b_getIv hB.1 ((st2_na (by omega)).trans hC.1) (b_stI k11 (by omega) (by omega) (by omega) (b_getA hM.1 h4 (b_getIv hB.1 ((st2_na (by omega)).trans ((st2_na (by omega)).trans hC.1)) (b_putI hB.1 hb (wp_rt ?_))))))))))))))))))
  rw [zn_succ]
  refine q _ _ (fun x x1 x2 x3 => by rw [st2_nb x1, st2_nb x3, st2_nb x2]) (fun j hj => by rw [st2_nk hj, st2_na (by omega), st2_na (by omega)]) (fun x hx => st2_nb hx) ⟨st2_at, fun k hk => ?_⟩
  have hk' : k < N.1 + 1 := hk
  show _ = ((if k = N.1 then (v, s, m) else N.2 k) : Int64 × Nat × Nat).1 ∧ _ = zn ((if k = N.1 then (v, s, m) else N.2 k) : Int64 × Nat × Nat).2.1 ∧ _ = zn ((if k = N.1 then (v, s, m) else N.2 k) : Int64 × Nat × Nat).2.2
  by_cases h2 : k = N.1
  · rw [if_pos h2, h2]
    refine ⟨st2_at, ?_, ?_⟩
    · rw [st2_na (by omega), st2_na (by omega), st2_at]
    · rw [st2_na (by omega), st2_at]
  · rw [if_neg h2]
    obtain ⟨x1, x2, x3⟩ := hC.2 k (by omega)
    refine ⟨by rw [st2_nk h2]; exact x1, ?_, ?_⟩
    · rw [st2_na (by omega), st2_na (by omega), st2_nk h2]; exact x2
    · rw [st2_na (by omega), st2_nk h2, st2_na (by omega)]; exact x3
end
