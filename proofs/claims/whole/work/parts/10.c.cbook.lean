/-! ===== book: the class reads ===== -/
section
variable {β : Type} {kw : Nat → Int64} {K : List (Nat × Nat)} {I I' : Nat → Nat → Int32} {J J' : Nat → Nat → Int64} {A : Nat → Nat → Option Nat} {w : WD}
variable {b : Nat → Nat} {n T t sb m : Nat} {B : BKD} {N : NMD} {A' : Nat → Nat → Option Nat}
theorem A_a6 (h : ∀ x j, (x ≠ 65 ∨ j ≠ 6) → A' x j = A x j) : A' = st2 A 65 6 (A' 65 6) := by
  funext x j
  rw [st2_app]
  by_cases h' : x = 65 ∧ j = 6
  · rw [if_pos h', h'.1, h'.2]
  · rw [if_neg h']; exact h x j (by omega)
theorem CSh.a6 {nb : Nat} {v : Option Nat} (h : CSh K A nb) : CSh K (st2 A 65 6 v) nb := by
  obtain ⟨h0, h1, h2, r, gs, ss, ks, cb, ps, ho⟩ := h
  have e64 : st2 A 65 6 v 64 = A 64 := st2_nb (by decide)
  refine ⟨h0, h1, ?_, r.ga Gr.rfl' (st2_nb (by decide)), gs.ga Gr.rfl' (st2_nb (by decide)), ss.ga Gr.rfl' (st2_nb (by decide)), ks, cb.ga Gr.rfl' (fun x a _ => st2_nb (by omega)), ps.a6 (by omega), ho⟩
  rw [e64]; exact h2
theorem MS.ga4 {K' : List (Nat × Nat)} (h : MS K A 224) (g : Gr K K') (e : ∀ j, 5 ≤ j → A' 224 j = A 224 j) : MS K' A' 224 := by
  obtain ⟨h0, ⟨a5, a6, a7, a21, a22, a23, a24, a25, a26, a27⟩, ⟨k1, k2, k3, k4, k5, k6, k7, k8, k9, k10⟩, h5⟩ := h
  refine ⟨g _ _ _ (by decide) h0, ?_, ⟨g _ _ _ (by decide) k1, g _ _ _ (by decide) k2, g _ _ _ (by decide) k3, g _ _ _ (by decide) k4, g _ _ _ (by decide) k5, g _ _ _ (by decide) k6, g _ _ _ (by decide) k7, g _ _ _ (by decide) k8, g _ _ _ (by decide) k9, g _ _ _ (by decide) k10⟩, h5⟩
  rw [e _ (by decide), e _ (by decide), e _ (by decide), e _ (by decide), e _ (by decide), e _ (by decide), e _ (by decide), e _ (by decide), e _ (by decide), e _ (by decide)]
  exact ⟨a5, a6, a7, a21, a22, a23, a24, a25, a26, a27⟩
theorem B0_ok : okB B0 := ⟨⟨by show 0 ≤ 4; omega, fun f hf => absurd hf (Nat.not_lt_zero f)⟩, ⟨by show 0 ≤ 4; omega, fun f hf => absurd hf (Nat.not_lt_zero f)⟩, ⟨by show 0 ≤ 8; omega, fun f hf => absurd hf (Nat.not_lt_zero f)⟩⟩
theorem N0_ok : okN N0 := ⟨by show 0 ≤ 16; omega, fun f hf => absurd hf (Nat.not_lt_zero f)⟩
theorem NB0_ok : okNB B0 N0 := fun f hf => absurd hf (Nat.not_lt_zero f)
theorem t_cRead {Q : Int32 → Hp → Prop} {cnt : Nat} (hI : Core kwC K I J A w) (hSK : SK K) (hc : cnt ≤ w.2.2.2.2.2.2.1.1)
    (qe : ∀ k s T v I' J', sBook w.2.2.2.2.2.2.1.2 cnt = Sum.inl (k, s) → 1 ≤ k ∧ k ≤ 7 → CFr (276 - w.1) I J I' J' → FPC I' J' w.2.2.2.2.2.2.1.2 cnt T k s → Q (zn k) (K, I', J', st2 A 65 6 v))
    (qs : ∀ B' N' v I' J', sBook w.2.2.2.2.2.2.1.2 cnt = Sum.inr (B', N') → CFr (276 - w.1) I J I' J' → 1 ≤ bnf B' → okB B' → CBC I' J' (276 - w.1) B' → ¬ I' 65 11 = 7 → (∃ T s, CT I' J' kwC w.2.2.2.2.2.2.1.2 cnt T s ∧ s < 1000) → Q 0 (K, I', J', st2 A 65 6 v)) : wp (f_X3_read (some 65) (zn cnt)) Q (K, I, J, A) := by
  have hP : PS K A (276 - w.1) := hI.sh.2.2.2.2.2.2.2.2.1
  have hnb := hI.nb
  have hP' := hP
  obtain ⟨hk, ⟨h0, h1, h2, h3, h4, h5⟩, hT, hR, d1, d2, d3, hBs⟩ := hP'
  have hO := hI.ot
  obtain ⟨_, _, _, ⟨t1, t2, t3, t4⟩, ⟨e1, e2, e3, e4⟩⟩ := hI
  have b0 := hBs.1
  unfold f_X3_read f_X0_empty
  refine b_putI hk (by decide) (b_getA hk h5 (b_ck b0 (b_assoc (b_putI b0 (by omega) (b_assoc (b_putI b0 (by omega) (b_assoc (b_putI b0 (by omega) (b_assoc (b_putI b0 (by omega) (b_rt (b_getA hk h0 (b_ck hT.1 ?_)))))))))))))
  have F0 : CFr (276 - w.1) I J (st2 (st2 (st2 (st2 (st2 I 65 11 0) (276 - w.1) 7 0) (276 - w.1) 8 0) (276 - w.1) 9 0) (276 - w.1) 10 0) J := by
    intro x hx
    have a1 : x ≠ 65 := fun q => hx (by unfold crg; omega)
    have a2 : x ≠ 276 - w.1 := fun q => hx (by unfold crg; omega)
    refine ⟨?_, rfl⟩
    rw [st2_nb a2, st2_nb a2, st2_nb a2, st2_nb a2, st2_nb a1]
  have e66 : ∀ x, (x = 66 ∨ x = 67) → (st2 (st2 (st2 (st2 (st2 I 65 11 0) (276 - w.1) 7 0) (276 - w.1) 8 0) (276 - w.1) 9 0) (276 - w.1) 10 0) x = I x := fun x hx => by
    rw [st2_nb (by omega), st2_nb (by omega), st2_nb (by omega), st2_nb (by omega), st2_nb (by omega)]
  refine wp_bd (t_split (kw := kwC) (b := w.2.2.2.2.2.2.1.2) hSK hT (by rw [e66 66 (by omega)]; exact t2) hc t1 (fun i hi => ⟨(t4 i hi).1, by rw [e66 67 (by omega)]; exact (t4 i hi).2.1⟩) e4 (fun I1 J1 T f1 f2 f3 cT => ?_))
  have F1 : CFr (276 - w.1) I J I1 J1 := F0.trans (fun x hx => ⟨f1 x (fun q => hx (by unfold crg; omega)) (fun q => hx (by unfold crg; omega)) (fun q => hx (by unfold crg; omega)), f3 x (fun q => hx (by unfold crg; omega)) (fun q => hx (by unfold crg; omega))⟩)
  have s7 : ∀ j, (j = 7 ∨ j = 8 ∨ j = 9 ∨ j = 10) → I1 (276 - w.1) j = zn 0 := fun j hj => by
    rw [f1 _ (by omega) (by omega) (by omega)]
    rcases hj with rfl | rfl | rfl | rfl
    · rw [st2_nk (by decide), st2_nk (by decide), st2_nk (by decide), st2_at]; rfl
    · rw [st2_nk (by decide), st2_nk (by decide), st2_at]; rfl
    · rw [st2_nk (by decide), st2_at]; rfl
    · rw [st2_at]; rfl
  have hC : CRd I1 J1 (276 - w.1) w.2.2.2.2.2.2.1.2 cnt T B0 N0 0 := ⟨cT, ⟨⟨s7 7 (by omega), s7 8 (by omega), s7 9 (by omega)⟩, fun f hf => absurd hf (Nat.not_lt_zero f), fun f hf => absurd hf (Nat.not_lt_zero f), fun f hf => absurd hf (Nat.not_lt_zero f)⟩, ⟨s7 10 (by omega), fun f hf => absurd hf (Nat.not_lt_zero f)⟩, B0_ok, N0_ok, rfl, by
    rw [f1 65 (by decide) (by decide) (by decide), st2_nb (by omega), st2_nb (by omega), st2_nb (by omega), st2_nb (by omega), st2_at]⟩
  unfold f_X3_read_l22
  refine t_cReadL (T := T) hSK (show 276 - w.1 = 104 ∨ 276 - w.1 = 172 by omega) 901 0 fuel 0 B0 N0 I1 J1 A (by omega) (by unfold fuel; omega) hP (hO.ga Gr.rfl' (F1 0 (by unfold crg; omega)).1 (F1 1 (by unfold crg; omega)).1) hC NB0_ok (by omega) (fun k s I2 J2 A2 g hk F2 hA _ hF => ?_) (fun B' N' I2 J2 A2 g F2 hA _ hb1 okb cB h7 hct => ?_)
  · rw [A_a6 hA]
    exact qe k s T _ I2 J2 g hk (F1.trans F2) hF
  · rw [A_a6 hA]
    exact qs B' N' _ I2 J2 g (F1.trans F2) hb1 okb cB h7 ⟨T, hct⟩
end
