/-! ===== book ===== -/
def PostX (K : List (Nat × Nat)) (h : Hp) : Prop := ∃ w tr I' J' A' L, h = (K ++ L, I', J', A') ∧ Core kwC (K ++ L) I' J' A' w ∧ Tr I' w tr ∧ L.length ≤ 24 ∧ (L.map ksz).sum ≤ 1400
section
variable {β : Type} {kw : Nat → Int64} {K : List (Nat × Nat)} {I I' : Nat → Nat → Int32} {J J' : Nat → Nat → Int64} {A : Nat → Nat → Option Nat} {w : WD}
variable {b : Nat → Nat} {n T t sb m : Nat} {B : BKD} {N : NMD} {A' A1 : Nat → Nat → Option Nat} {K' : List (Nat × Nat)}
theorem PostX.of (h : Post kwC K A w (K, I, J, A)) : PostX K (K, I, J, A) := by
  obtain ⟨I', J', tr, e, hc, ht⟩ := h
  have e1 := congrArg (fun h => h.2.1) e
  have e2 := congrArg (fun h => h.2.2.1) e
  dsimp only at e1 e2
  subst e1; subst e2
  exact ⟨w, tr, I, J, A, [], by rw [List.append_nil], by rw [List.append_nil]; exact hc, ht, by decide, by decide⟩
theorem FPC.o {k s x j : Nat} {v : Int32} (h : FPC I J b n T k s) (hx : x ≠ 65 ∧ x ≠ 66 ∧ x ≠ 67 ∧ x ≠ 69 ∧ x ≠ 71) : FPC (st2 I x j v) J b n T k s := by
  rcases h with ⟨h1, h2, h3⟩ | ⟨h1, h2, h3⟩
  · exact Or.inl ⟨h1, by rw [st2_nb (Ne.symm hx.1)]; exact h2, by rw [st2_nb (Ne.symm hx.1)]; exact h3⟩
  · exact Or.inr ⟨by rw [st2_nb (Ne.symm hx.1)]; exact h1, h2.o ⟨hx.2.1, hx.2.2.1, hx.2.2.2.1, hx.2.2.2.2⟩, h3⟩
theorem t_fpl {k s : Nat} (hk : kk K 65 = (0, 3)) (h0 : A 65 0 = some 66) (hT : TS K A) (h : FPC I J b n T k s) : f_X3_faultPlace (some 65) (K, I, J, A) = some (zn (ps b n s), (K, I, J, A)) := by
  apply wp_get
  unfold f_X3_faultPlace
  rcases h with ⟨h1, h2, h3⟩ | ⟨h1, h2, h3⟩
  · exact b_getIv hk h2 (wp_ifn (by decide) (b_getIv hk h3 (wp_rt ⟨rfl, rfl⟩)))
  · exact b_getI hk (wp_ifp h1 (b_getA hk h0 (b_ck hT.1 (b_eq (t_placeNow hT h2 (by omega)) (wp_rt ⟨rfl, rfl⟩)))))
theorem ks_len : ∀ m, m ≤ 4 → (((0, 9) :: bkL) ++ fks m).length ≤ 24 ∧ ((((0, 9) :: bkL) ++ fks m).map ksz).sum ≤ 1400 := by
  intro m hm
  have : m = 0 ∨ m = 1 ∨ m = 2 ∨ m = 3 ∨ m = 4 := by omega
  rcases this with rfl | rfl | rfl | rfl | rfl <;> exact ⟨by decide, by decide⟩
/-- nothing but what reading may touch has changed: a fault -/
theorem core_err {k p : Nat} {v : Option Nat} (hI : Core kwC K I J A w) (g : Gr K K') (eI : ∀ x, x < K.length → ¬ crg (276 - w.1) x → x ≠ 64 → x ≠ 224 → I' x = I x) (e224 : ∀ j, 28 ≤ j → I' 224 j = I 224 j)
    (eJ : ∀ x, x < K.length → ¬ crg (276 - w.1) x → x ≠ 224 → x ≠ 225 → x ≠ 226 → J' x = J x) (eA : ∀ x, x < K.length → x ≠ 224 → A' x = st2 A 65 6 v x) (eA2 : ∀ j, j ≠ 4 → A' 224 j = A 224 j) (hM : MS K' A' 224)
    (h1 : I' 66 5 = 0) (h2 : I' 224 8 = 0) (h3 : I' 64 9 = zn k) (h4 : I' 224 15 = zn k) (h5 : I' 64 10 = zn p) : Core kwC K' I' J' A' (w.1, w.2.1, w.2.2.1, w.2.2.2.1, w.2.2.2.2.1, w.2.2.2.2.2.1, (0, w.2.2.2.2.2.2.1.2), ((k : Int), (p : Int))) := by
  have hl := hI.len
  have hnb := hI.nb
  obtain ⟨nb, B, w⟩ := w
  unfold Core at hI ⊢
  dsimp only at hI eI eJ hnb ⊢
  obtain ⟨⟨a1, a2, a3, a4⟩, ⟨b1, b2⟩, ⟨c1, c2, c3⟩, ⟨d1, d2, d3, d4⟩, ⟨e1, e2, e3, e4⟩⟩ := hI
  have a1' : CSh K (st2 A 65 6 v) nb := a1.a6
  refine ⟨⟨a1'.ga g a1.1 (fun x x1 x2 => eA x (by omega) (by omega)) (fun j _ => by rw [eA 64 (by omega) (by omega)]) (by rw [eA 64 (by omega) (by omega)]; exact a1'.2.2.1.2.2.2.2.2.2.2.2) (fun j _ => by rw [eA 65 (by omega) (by omega)]) (by rw [eA 65 (by omega) (by omega)]; exact a1'.2.2.2.2.2.2.2.2.1.2.1.2.2.2.2.2), hM, a3.ga g (eI 0 (by omega) (by unfold crg; omega) (by omega) (by omega)) (eI 1 (by omega) (by unfold crg; omega) (by omega) (by omega)), a4⟩, ⟨b1.lo a4 (fun x x1 x2 => ⟨eI x (by omega) (by unfold crg; omega) (by omega) (by omega), eJ x (by omega) (by unfold crg; omega) (by omega) (by omega) (by omega)⟩), ?_⟩, ⟨?_, ?_, c3⟩, ⟨by omega, h1, h2, fun i hi => absurd hi (Nat.not_lt_zero i)⟩, ⟨by rw [h3, zn_zi], by rw [h4, zn_zi], by rw [h5, zn_zi], fun i hi => ?_⟩⟩
  · refine b2.ga g (fun x x1 x2 => eI x x2 (by unfold crg; omega) (by omega) (by omega)) (fun x x1 x2 => eJ x x2 (by unfold crg; omega) (by omega) (by omega) (by omega)) (fun x x1 x2 => ?_) (eA2 3 (by decide))
    rw [eA x x2 (by omega), st2_nb (by omega)]
  · exact c1.mv (eI 162 (by omega) (by unfold crg; omega) (by omega) (by omega)) (eJ 163 (by omega) (by unfold crg; omega) (by omega) (by omega) (by omega)) (eJ 164 (by omega) (by unfold crg; omega) (by omega) (by omega) (by omega))
  · exact c2.mv (fun j hj => e224 j (by omega)) (eJ _ (by omega) (by unfold crg; omega) (by omega) (by omega) (by omega)) (eJ _ (by omega) (by unfold crg; omega) (by omega) (by omega) (by omega)) (eJ _ (by omega) (by unfold crg; omega) (by omega) (by omega) (by omega)) (eJ _ (by omega) (by unfold crg; omega) (by omega) (by omega) (by omega))
  · rw [eJ 68 (by omega) (by unfold crg; omega) (by omega) (by omega) (by omega)]; exact e4 i hi
/-- a new book -/
theorem core_ok {p rb : Nat} {b' : Nat → Nat} {U R M : Nat → RSt} (hI : Core kwC K I J A w) (g : Gr K K') (eI : ∀ x, (x = 0 ∨ x = 1) → I' x = I x) (e68 : J' 68 = J 68) (hSh : CSh K' A' (276 - w.1)) (hM : MS K' A' 224) (hok : okB B) (hC : CBC I' J' (276 - w.1) B)
    (h3 : A' 224 3 = some rb) (hrb : 236 ≤ rb) (hBS : BS K' A' rb) (hRC : RBC K' I' J' A' rb B) (hb1 : 1 ≤ bnf B) (hG : RGC I' J' 162 (0, fun _ _ => 0) 0 U 0 R 0 M) (hR : RGR I' J' 224 (0, fun _ _ => 0) 0 U 0 R 0 M)
    (h1 : I' 66 5 = 0) (h2 : I' 224 8 = 0) (h9 : I' 64 9 = 0) (h15 : I' 224 15 = 0) (h10 : I' 64 10 = zn p) : Core kwC K' I' J' A' (276 - w.1, B, (0, fun _ _ => 0), (0, U), (0, R), (0, M), (0, b'), ((0 : Int), (p : Int))) := by
  unfold Core at hI ⊢
  dsimp only at hI ⊢
  obtain ⟨⟨a1, a2, a3, a4⟩, ⟨b1, b2⟩, ⟨c1, c2, c3⟩, ⟨d1, d2, d3, d4⟩, ⟨e1, e2, e3, e4⟩⟩ := hI
  exact ⟨⟨hSh, hM, a3.ga g (eI 0 (by omega)) (eI 1 (by omega)), hok⟩, ⟨hC, Or.inr ⟨rb, h3, hrb, hBS, hRC, hb1⟩⟩, ⟨hG, hR, ⟨Or.inl rfl, fun _ _ _ => rfl⟩, fun j hj => absurd hj (Nat.not_lt_zero j), fun j hj => absurd hj (Nat.not_lt_zero j), fun j hj => absurd hj (Nat.not_lt_zero j), fun _ => rfl⟩, ⟨by omega, h1, h2, fun i hi => absurd hi (Nat.not_lt_zero i)⟩, ⟨h9, h15, by rw [h10, zn_zi], fun i hi => by rw [e68]; exact e4 i hi⟩⟩
end
