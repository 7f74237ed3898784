/-! ===== an equation under way ===== -/
def EU (I : Nat → Nat → Int32) (e p T : Nat) (c u : Nat → Nat) : Prop := I e 4 = zn p ∧ I e 5 = zn T ∧ ∀ t, t < T → (I (e + 1) t = zn (c t) ∧ I (e + 2) t = zn (u t))
def addT (f : Nat → Nat) (T v : Nat) : Nat → Nat := fun t => if t = T then v else f t
section
variable {β : Type} {kw : Nat → Int64} {K : List (Nat × Nat)} {I I' : Nat → Nat → Int32} {J J' : Nat → Nat → Int64} {A : Nat → Nat → Option Nat} {w : WD}
theorem t_eqBegin {e p : Nat} (hE : ES K A e) : f_X1_begin (some e) (zn p) (K, I, J, A) = some ((), (K, st2 (st2 I e 4 (zn p)) e 5 0, J, A)) := by
  apply wp_get'
  unfold f_X1_begin
  exact b_putI hE.1 hE.2.2.2 (b_putI hE.1 hE.2.2.2 (wp_rt ⟨rfl, rfl⟩))
theorem eu_begin {e p : Nat} {c u : Nat → Nat} : EU (st2 (st2 I e 4 (zn p)) e 5 0) e p 0 c u := ⟨by rw [st2_nk (by decide), st2_at], st2_at, fun t ht => absurd ht (Nat.not_lt_zero t)⟩
theorem t_isFull {e p T : Nat} {c u : Nat → Nat} (hE : ES K A e) (hU : EU I e p T c u) (hT : T ≤ 3) : f_X1_isFull (some e) (K, I, J, A) = some (b01 (T == 3), (K, I, J, A)) := by
  apply wp_get
  unfold f_X1_isFull
  refine b_getIv hE.1 hU.2.1 ?_
  by_cases h : T = 3
  · subst h; exact wp_ifn (by decide) (wp_rt ⟨rfl, rfl⟩)
  · refine wp_ifp (lt_t (b := 3) (by omega)) (wp_rt ⟨?_, rfl⟩)
    rw [beq_eq_false_iff_ne.mpr h]; rfl
theorem t_eqAppend {Q : Unit → Hp → Prop} {e p T x y : Nat} {c u : Nat → Nat} (hE : ES K A e) (hU : EU I e p T c u) (hT : T < 3)
    (q : ∀ I', (∀ z, z ≠ e → z ≠ e + 1 → z ≠ e + 2 → I' z = I z) → EU I' e p (T + 1) (addT c T x) (addT u T y) → Q () (K, I', J, A)) : wp (f_X1_append (some e) (zn x) (zn y)) Q (K, I, J, A) := by
  obtain ⟨e0, ⟨ea0, ea1, ea2, ea3⟩, ⟨ek1, ek2, ek3, ek4⟩, he⟩ := hE
  obtain ⟨u4, u5, uT⟩ := hU
  unfold f_X1_append
  refine b_getA e0 ea0 (b_getIv e0 u5 (b_eq (t_mark ek1 (by omega) (by omega) (by omega)) (b_getA e0 ea1 (b_getIv e0 ((st2_na (by omega)).trans u5) (b_eq (t_mark ek2 (by omega) (by omega) (by omega)) (b_getIv e0 ((st2_na (by omega)).trans ((st2_na (by omega)).trans u5)) (b_putI e0 he (wp_rt ?_))))))))
  rw [zn_succ]
  refine q _ (fun z z1 z2 z3 => by rw [st2_nb z1, st2_nb z3, st2_nb z2]) ⟨?_, st2_at, fun t ht => ?_⟩
  · rw [st2_nk (by decide), st2_na (by omega), st2_na (by omega)]; exact u4
  · unfold addT
    by_cases h : t = T
    · subst h
      rw [if_pos rfl, if_pos rfl]
      refine ⟨?_, ?_⟩
      · rw [st2_na (by omega), st2_na (by omega), st2_at]
      · rw [st2_na (by omega), st2_at]
    · rw [if_neg h, if_neg h]
      obtain ⟨z1, z2⟩ := uT t (by omega)
      refine ⟨?_, ?_⟩
      · rw [st2_na (by omega), st2_na (by omega), st2_nk h]; exact z1
      · rw [st2_na (by omega), st2_nk h, st2_na (by omega)]; exact z2
theorem t_eqClose {e r : Nat} (hE : ES K A e) : f_X1_close (some e) (zn r) (K, I, J, A) = some ((), (K, st2 I e 6 (zn r), J, A)) := by
  apply wp_get'
  unfold f_X1_close
  exact b_putI hE.1 hE.2.2.2 (wp_rt ⟨rfl, rfl⟩)
theorem EU.close {e p T r : Nat} {c u : Nat → Nat} (h : EU I e p T c u) : EC (st2 I e 6 (zn r)) e p T r c u := ⟨by rw [st2_nk (by decide)]; exact h.1, by rw [st2_nk (by decide)]; exact h.2.1, st2_at, fun t ht => ⟨by rw [st2_na (by omega)]; exact (h.2.2 t ht).1, by rw [st2_na (by omega)]; exact (h.2.2 t ht).2⟩⟩
end
