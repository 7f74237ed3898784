/-! ===== the reference's book: its making ===== -/
section
variable {β : Type} {kw : Nat → Int64} {K : List (Nat × Nat)} {I I' : Nat → Nat → Int32} {J J' : Nat → Nat → Int64} {A : Nat → Nat → Option Nat} {w : WD}
theorem kk_at {M : List (Nat × Nat)} {i : Nat} : kk (K ++ M) (K.length + i) = (M[i]?).getD (99, 0) := by
  unfold kk
  rw [List.getElem?_append_right (by omega), Nat.add_sub_cancel_left]
/-- an object under way: its arrays so far, all empty -/
def AB (K0 : List (Nat × Nat)) (I0 : Nat → Nat → Int32) (J0 : Nat → Nat → Int64) (A0 : Nat → Nat → Option Nat) (c k0 : Nat) (L : List (Nat × Nat)) (K : List (Nat × Nat)) (I : Nat → Nat → Int32) (J : Nat → Nat → Int64) (A : Nat → Nat → Option Nat) : Prop :=
  K = K0 ++ (0, c) :: L ∧ (∀ b, b < K0.length → (I b = I0 b ∧ J b = J0 b ∧ A b = A0 b)) ∧ (∀ b, K0.length ≤ b → b < K0.length + 1 + L.length → ∀ k, I b k = 0 ∧ J b k = 0) ∧ (∀ i, i < L.length → A K0.length (k0 + i) = some (K0.length + 1 + i)) ∧ ∀ b k, K0.length ≤ b → b < K0.length + 1 + L.length → (b = K0.length → k < k0) → A b k = none
theorem ab_new {K0 : List (Nat × Nat)} {I0 : Nat → Nat → Int32} {J0 : Nat → Nat → Int64} {A0 : Nat → Nat → Option Nat} {c k0 : Nat} : AB K0 I0 J0 A0 c k0 [] (K0 ++ [(0, c)]) (st1 I0 K0.length (fun _ => 0)) (st1 J0 K0.length (fun _ => 0)) (st1 A0 K0.length (fun _ => none)) := by
  refine ⟨rfl, fun b hb => ⟨st1_nq (by omega), st1_nq (by omega), st1_nq (by omega)⟩, fun b h1 h2 k => ?_, fun i hi => absurd hi (Nat.not_lt_zero i), fun b k h1 h2 _ => ?_⟩
  · have : b = K0.length := by
      have : ([] : List (Nat × Nat)).length = 0 := rfl
      omega
    subst this
    rw [st1_at, st1_at]; exact ⟨rfl, rfl⟩
  · have : b = K0.length := by
      have : ([] : List (Nat × Nat)).length = 0 := rfl
      omega
    subst this
    rw [st1_at]
theorem ab_step {G : Unit → Mo β} {Q : β → Hp → Prop} {K0 : List (Nat × Nat)} {I0 : Nat → Nat → Int32} {J0 : Nat → Nat → Int64} {A0 : Nat → Nat → Option Nat} {c k0 t n k : Nat} {L : List (Nat × Nat)} (h : AB K0 I0 J0 A0 c k0 L K I J A) (hl : 64 ≤ K0.length) (hk : k = k0 + L.length) (ht : 1 ≤ t ∧ t < 8 ∧ ¬ t = 6) (hn : n ≤ 10000)
    (q : ∀ K' I' J' A', AB K0 I0 J0 A0 c k0 (L ++ [(t, n)]) K' I' J' A' → wp (G ()) Q (K', I', J', A')) : wp (mBd (mNewA t (zn n)) (fun r => mBd (mPutA c k (some K0.length) r) G)) Q (K, I, J, A) := by
  obtain ⟨rfl, h1, h2, h3, h4⟩ := h
  subst hk
  have e : (K0 ++ (0, c) :: L).length = K0.length + 1 + L.length := by rw [List.length_append, List.length_cons]; omega
  have eL : (L ++ [(t, n)]).length = L.length + 1 := by rw [List.length_append]; rfl
  have k0' : kk (K0 ++ (0, c) :: L) K0.length = (0, c) := by
    have := kk_at (K := K0) (M := (0, c) :: L) (i := 0)
    rw [Nat.add_zero] at this
    rw [this]; rfl
  refine b_newA ht hn (b_putA ?_ hl (q _ _ _ _ ⟨?_, fun b hb => ⟨?_, ?_, ?_⟩, fun b hb1 hb2 k => ?_, fun i hi => ?_, fun b k hb1 hb2 hb3 => ?_⟩))
  · unfold kk
    rw [List.getElem?_append_left (by omega)]
    exact k0'
  · rw [List.append_assoc, List.cons_append]
  · rw [st1_nq (by omega)]; exact (h1 b hb).1
  · rw [st1_nq (by omega)]; exact (h1 b hb).2.1
  · rw [st2_nb (by omega), st1_nq (by omega)]; exact (h1 b hb).2.2
  · rw [e]
    by_cases hb : b = K0.length + 1 + L.length
    · subst hb; rw [st1_at, st1_at]; exact ⟨rfl, rfl⟩
    · rw [st1_nq hb, st1_nq hb]; exact h2 b hb1 (by omega) k
  · rw [e]
    by_cases hb : i = L.length
    · subst hb; rw [st2_at]
    · rw [st2_nk (by omega), st1_nq (by omega)]; exact h3 i (by omega)
  · rw [e]
    by_cases hb : b = K0.length + 1 + L.length
    · subst hb; rw [st2_nb (by omega), st1_at]
    · by_cases hb' : b = K0.length
      · subst hb'
        have := hb3 rfl
        rw [st2_nk (by omega), st1_nq (by omega)]; exact h4 _ k hb1 (by omega) hb3
      · rw [st2_nb hb', st1_nq hb]; exact h4 b k hb1 (by omega) hb3
def bkL : List (Nat × Nat) := [(7, 4), (1, 4), (1, 4), (1, 4), (1, 12), (1, 12), (1, 8), (2, 96), (2, 16), (1, 16), (1, 16)]
theorem t_newBook {G : Option Nat → Mo β} {Q : β → Hp → Prop} (hl : 64 ≤ K.length)
    (q : ∀ I' J' A', (∀ b, b < K.length → (I' b = I b ∧ J' b = J b ∧ A' b = A b)) → BS (K ++ (0, 9) :: bkL) A' K.length → (∀ b, K.length ≤ b → b < K.length + 12 → ∀ k, I' b k = 0 ∧ J' b k = 0) → (∀ b k, K.length < b → b < K.length + 12 → A' b k = none) → wp (G (some K.length)) Q (K ++ (0, 9) :: bkL, I', J', A')) : wp (mBd (mNew 9) (fun r => mBd (mCk 9 r (f_X11_init r)) (fun _ => G r))) Q (K, I, J, A) := by
  refine b_new (by decide) (b_ck kk_new (wp_bd ?_))
  unfold f_X11_init
  refine wp_ck kk_new ?_
  refine ab_step (n := 4) (ab_new (K0 := K) (I0 := I) (J0 := J) (A0 := A) (c := 9) (k0 := 4)) hl rfl (by decide) (by decide) (fun K1 I1 J1 A1 h1 => ?_)
  refine ab_step (n := 4) h1 hl rfl (by decide) (by decide) (fun K1 I1 J1 A1 h1 => ?_)
  refine ab_step (n := 4) h1 hl rfl (by decide) (by decide) (fun K1 I1 J1 A1 h1 => ?_)
  refine ab_step (n := 4) h1 hl rfl (by decide) (by decide) (fun K1 I1 J1 A1 h1 => ?_)
  refine ab_step (n := 12) h1 hl rfl (by decide) (by decide) (fun K1 I1 J1 A1 h1 => ?_)
  refine ab_step (n := 12) h1 hl rfl (by decide) (by decide) (fun K1 I1 J1 A1 h1 => ?_)
  refine ab_step (n := 8) h1 hl rfl (by decide) (by decide) (fun K1 I1 J1 A1 h1 => ?_)
  refine ab_step (n := 96) h1 hl rfl (by decide) (by decide) (fun K1 I1 J1 A1 h1 => ?_)
  refine ab_step (n := 16) h1 hl rfl (by decide) (by decide) (fun K1 I1 J1 A1 h1 => ?_)
  refine ab_step (n := 16) h1 hl rfl (by decide) (by decide) (fun K1 I1 J1 A1 h1 => ?_)
  refine ab_step (n := 16) h1 hl rfl (by decide) (by decide) (fun K1 I1 J1 A1 h1 => wp_rt ?_)
  have h1 : AB K I J A 9 4 bkL K1 I1 J1 A1 := h1
  obtain ⟨rfl, h2, h3, h4, h5⟩ := h1
  have kb : ∀ i, i < 12 → kk (K ++ (0, 9) :: bkL) (K.length + i) = (((0, 9) :: bkL)[i]?).getD (99, 0) := fun i _ => kk_at
  refine q _ _ _ h2 ⟨kb 0 (by decide), ⟨h4 0 (by decide), h4 1 (by decide), h4 2 (by decide), h4 3 (by decide), h4 4 (by decide), h4 5 (by decide), h4 6 (by decide), h4 7 (by decide), h4 8 (by decide), h4 9 (by decide), h4 10 (by decide)⟩, ⟨kb 1 (by decide), kb 2 (by decide), kb 3 (by decide), kb 4 (by decide), kb 5 (by decide), kb 6 (by decide), kb 7 (by decide), kb 8 (by decide), kb 9 (by decide), kb 10 (by decide), kb 11 (by decide)⟩, hl⟩ (fun b x y k => h3 b x (by have : bkL.length = 11 := rfl; omega) k) (fun b k x y => h5 b k (by omega) (by have : bkL.length = 11 := rfl; omega) (fun z => by omega))
end
