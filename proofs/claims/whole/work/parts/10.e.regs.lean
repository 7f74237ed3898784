/-! ===== book: the registers begin anew ===== -/
section
variable {β : Type} {kw : Nat → Int64} {K : List (Nat × Nat)} {I I' : Nat → Nat → Int32} {J J' : Nat → Nat → Int64} {A : Nat → Nat → Option Nat} {w : WD}
theorem t_restart {Q : Unit → Hp → Prop} {U R M : Nat → RSt} (hG : GS K A 162)
    (q : ∀ I' J', (∀ x, x ≠ 162 → I' x = I x) → (∀ x, x ≠ 163 → J' x = J x) → RGC I' J' 162 (0, fun _ _ => 0) 0 U 0 R 0 M → Q () (K, I', J', A)) : wp (f_X4_restart (some 162)) Q (K, I, J, A) := by
  obtain ⟨g0, ⟨ga0, ga1⟩, ⟨gk1, gk2⟩, g64⟩ := hG
  unfold f_X4_restart
  refine b_putI g0 (by decide) (b_putI g0 (by decide) (b_putI g0 (by decide) (b_putI g0 (by decide) (b_ck g0 (wp_bd ?_)))))
  have i2 : st2 (st2 (st2 (st2 I 162 2 0) 162 3 0) 162 4 0) 162 5 0 162 2 = zn 0 := by rw [st2_nk (by decide), st2_nk (by decide), st2_nk (by decide), st2_at]; rfl
  unfold f_X4_clearTo f_X4_clearTo_l2
  refine for1 (N := 41) (fun k I' J' => I' = st2 (st2 (st2 (st2 I 162 2 0) 162 3 0) 162 4 0) 162 5 0 ∧ (∀ b, b ≠ 163 → J' b = J b) ∧ ∀ i, i < k → J' 163 i = 0) ?_ ?_ (k := 0) (by omega) (by unfold fuel; omega) ⟨rfl, fun b _ => rfl, fun i hi => absurd hi (Nat.not_lt_zero i)⟩
  · rintro k I' J' R' hk ⟨rfl, hf, hv⟩ hR
    unfold f_X4_clearTo_b2
    refine wp_ifn (ge_f (b := 41) (by omega)) (b_getA g0 ga0 (b_getIv g0 i2 ?_))
    rw [show zn 0 * (41 : Int32) + zn k = zn (0 * 41 + k) from by rw [← zn_add, ← zn_mul]; rfl]
    refine b_eq (t_put gk1 (by decide) (by omega) (by omega)) (hR _ _ ⟨rfl, fun b hb => ?_, fun i hi => ?_⟩)
    · rw [st2_nb hb]; exact hf b hb
    · by_cases h : i = 0 * 41 + k
      · subst h; exact st2_at
      · rw [st2_nk h]; exact hv i (by omega)
  · rintro I' J' R' ⟨rfl, hf, hv⟩
    unfold f_X4_clearTo_b2
    refine wp_ifp (ge_t (b := 41) (by omega)) (b_getA g0 ga0 (b_getIv g0 i2 ?_))
    rw [show zn 0 * (41 : Int32) = zn 0 from by decide]
    refine b_eq (t_put gk1 (by decide) (by omega) (by omega)) (wp_rt (wp_rt (q _ _ (fun x hx => by rw [st2_nb hx, st2_nb hx, st2_nb hx, st2_nb hx]) (fun x hx => by rw [st2_nb hx]; exact hf x hx) ⟨0, by omega, ⟨i2, by rw [st2_nk (by decide), st2_nk (by decide), st2_at]; rfl, by rw [st2_nk (by decide), st2_at]; rfl, by rw [st2_at]; rfl⟩, ⟨by omega, by omega⟩, ⟨?_, fun r hr i hi => ?_⟩, fun j hj => absurd hj (Nat.not_lt_zero j), fun j hj => absurd hj (Nat.not_lt_zero j), fun j hj => absurd hj (Nat.not_lt_zero j)⟩)))
    · show st2 J' 163 0 (0 : Int32).toInt64 163 0 = _
      rw [st2_at]; rfl
    · show st2 J' 163 0 (0 : Int32).toInt64 163 (0 * 41 + 1 + r * 10 + i) = 0
      rw [st2_nk (by omega)]
      exact hv _ (by omega)
theorem t_now0 {Q : Int32 → Hp → Prop} {rb f : Nat} {U R M : Nat → RSt} (hM : MS K A 224) (h3 : A 224 3 = some rb) (hB : kk K rb = (0, 9)) (hb0 : I rb 0 = zn f) (hrb : rb ≠ 224)
    (q : ∀ I' J', (∀ x, x ≠ 224 → I' x = I x) → (∀ j, j ≠ 1 → j ≠ 2 → j ≠ 28 → j ≠ 29 → j ≠ 30 → I' 224 j = I 224 j) → I' 224 1 = 0 → I' 224 2 = -1 → (∀ x, x ≠ 231 → J' x = J x) → RGR I' J' 224 (0, fun _ _ => 0) 0 U 0 R 0 M → Q (zn f) (K, I', J', A)) : wp (f_X13_book_l99 (some 224) 0) Q (K, I, J, A) := by
  unfold f_X13_book_l99
  refine for1 (N := 49) (fun k I' J' => I' = I ∧ (∀ b, b ≠ 231 → J' b = J b) ∧ ∀ i, i < k → J' 231 i = 0) ?_ ?_ (k := 0) (by omega) (by unfold fuel; omega) ⟨rfl, fun b _ => rfl, fun i hi => absurd hi (Nat.not_lt_zero i)⟩
  · rintro k I' J' R' hk ⟨rfl, hf, hv⟩ hR
    unfold f_X13_book_b99
    refine wp_ifn (ge_f (b := 49) (by omega)) (b_getA hM.1 hM.2.1.2.2.2.2.2.2.1 (b_stJ hM.2.2.1.2.2.2.2.2.2.1 (by decide) (by omega) (by omega) (hR _ _ ⟨rfl, fun b hb => ?_, fun i hi => ?_⟩)))
    · rw [st2_nb hb]; exact hf b hb
    · by_cases h : i = k
      · subst h
        show st2 J' 231 i 0 231 i = 0
        exact st2_at
      · show st2 J' 231 k 0 231 i = 0
        rw [st2_nk h]; exact hv i (by omega)
  · rintro I' J' R' ⟨rfl, hf, hv⟩
    unfold f_X13_book_b99
    refine wp_ifp (ge_t (b := 49) (by omega)) (b_putI hM.1 (by decide) (b_putI hM.1 (by decide) (b_putI hM.1 (by decide) (b_getA hM.1 h3 (b_getIv hB ?_ (r_good ⟨hM.1, by decide⟩ (q _ _ (fun x hx => ?_) (fun j j1 j2 j3 j4 j5 => ?_) ?_ st2_at hf ⟨⟨?_, ?_, ?_⟩, ⟨by omega, by omega⟩, ⟨?_, fun r hr i hi => ?_⟩, fun j hj => absurd hj (Nat.not_lt_zero j), fun j hj => absurd hj (Nat.not_lt_zero j), fun j hj => absurd hj (Nat.not_lt_zero j)⟩)))))))
    · rw [st2_nb hrb, st2_nb hrb, st2_nb hrb]; exact hb0
    · rw [st2_nb hx, st2_nb hx, st2_nb hx, st2_nb hx, st2_nb hx]
    · rw [st2_nk j2, st2_nk j1, st2_nk j5, st2_nk j4, st2_nk j3]
    · rw [st2_nk (by decide), st2_at]
    · rw [st2_nk (by decide), st2_nk (by decide), st2_nk (by decide), st2_nk (by decide), st2_at]; rfl
    · rw [st2_nk (by decide), st2_nk (by decide), st2_nk (by decide), st2_at]; rfl
    · rw [st2_nk (by decide), st2_nk (by decide), st2_at]; rfl
    · show J' 231 0 = _
      rw [hv 0 (by omega)]; rfl
    · show J' 231 (0 * 49 + 1 + r * 12 + i) = 0
      exact hv _ (by omega)
end
