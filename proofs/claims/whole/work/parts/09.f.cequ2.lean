/-! ===== an equation's line: the class ===== -/
section
variable {β : Type} {kw : Nat → Int64} {K : List (Nat × Nat)} {I I' : Nat → Nat → Int32} {J J' : Nat → Nat → Int64} {A : Nat → Nat → Option Nat} {w : WD}
variable {b : Nat → Nat} {n T t sb m : Nat} {B : BKD} {N : NMD} {A' : Nat → Nat → Option Nat}
theorem PS.a6 {v : Option Nat} (h : PS K A sb) (hsb : sb = 104 ∨ sb = 172) : PS K (st2 A 65 6 v) sb := by
  obtain ⟨h0, ⟨a0, a1, a2, a3, a4, a5⟩, t, r, d1, d2, d3, c⟩ := h
  exact ⟨h0, ⟨(st2_nk (by decide)).trans a0, (st2_nk (by decide)).trans a1, (st2_nk (by decide)).trans a2, (st2_nk (by decide)).trans a3, (st2_nk (by decide)).trans a4, (st2_nk (by decide)).trans a5⟩, t.ga Gr.rfl' (st2_nb (by decide)), r.ga Gr.rfl' (st2_nb (by decide)), d1.ga Gr.rfl' (st2_nb (by decide)), d2.ga Gr.rfl' (st2_nb (by decide)), d3.ga Gr.rfl' (st2_nb (by decide)), c.ga Gr.rfl' (fun x a _ => st2_nb (by omega))⟩
theorem addEq_ok {f m' r : Nat} {c u : Nat → Nat} (hk : okB B) (hne : bne B < 4) (hf : f < bnf B) (hE : okE (bfp B f) m' c u) (hr : r < bfp B f) : okB (addEq B f m' r c u) := by
  obtain ⟨⟨o1, o2⟩, ⟨o3, o4⟩, ⟨o5, o6⟩⟩ := hk
  refine ⟨⟨o1, o2⟩, ⟨by show bne B + 1 ≤ 4; omega, fun i hi => ?_⟩, ⟨o5, o6⟩⟩
  have hi' : i < bne B + 1 := hi
  unfold bef beT bec beu ber addEq
  by_cases h : i = bne B
  · simp only [h, if_true]
    exact ⟨hf, hE, hr⟩
  · simp only [h, if_false]
    exact o4 i (by omega)
theorem CBC.addE {f m' r : Nat} {c u : Nat → Nat} (hk : okB B) (h : CBC I J sb B) (hne : bne B < 4) (e7 : I' sb 7 = I sb 7) (e8 : I' sb 8 = zn (bne B + 1)) (e9 : I' sb 9 = I sb 9)
    (eI : ∀ x, sb < x → x < sb + 52 → x ≠ sb + 14 → x ≠ sb + 15 → x ≠ sb + 32 + 5 * bne B → x ≠ sb + 32 + 5 * bne B + 1 → x ≠ sb + 32 + 5 * bne B + 2 → I' x = I x) (eJ : ∀ x, sb ≤ x → x < sb + 52 → x ≠ sb + 13 → J' x = J x) (hE : EC I' (sb + 32 + 5 * bne B) (bfp B f) m' r c u) : CBC I' J' sb (addEq B f m' r c u) := by
  obtain ⟨⟨o1, o2⟩, ⟨o3, o4⟩, ⟨o5, o6⟩⟩ := hk
  obtain ⟨⟨c7, c8, c9⟩, cF, cE, cL⟩ := h
  refine ⟨⟨e7.trans c7, e8, e9.trans c9⟩, fun f hf => ?_, fun i hi => ?_, fun l hl => ⟨?_, fun i hi => ?_⟩⟩
  · have hf' : f < bnf B := hf
    exact (cF f hf').mv (eI _ (by omega) (by omega) (by omega) (by omega) (by omega) (by omega) (by omega)) (eI _ (by omega) (by omega) (by omega) (by omega) (by omega) (by omega) (by omega)) (eI _ (by omega) (by omega) (by omega) (by omega) (by omega) (by omega) (by omega))
  · have hi' : i < bne B + 1 := hi
    by_cases h : i = bne B
    · subst h
      have e1 : bef (addEq B f m' r c u) (bne B) = f := by unfold bef addEq; simp
      have e2 : beT (addEq B f m' r c u) (bne B) = m' := by unfold beT addEq; simp
      have e3 : ber (addEq B f m' r c u) (bne B) = r := by unfold ber addEq; simp
      have e4 : bec (addEq B f m' r c u) (bne B) = c := by unfold bec addEq; simp
      have e5 : beu (addEq B f m' r c u) (bne B) = u := by unfold beu addEq; simp
      rw [e1, e2, e3, e4, e5]
      exact hE
    · have e1 : bef (addEq B f m' r c u) i = bef B i := by unfold bef addEq; simp [h]
      have e2 : beT (addEq B f m' r c u) i = beT B i := by unfold beT addEq; simp [h]
      have e3 : ber (addEq B f m' r c u) i = ber B i := by unfold ber addEq; simp [h]
      have e4 : bec (addEq B f m' r c u) i = bec B i := by unfold bec addEq; simp [h]
      have e5 : beu (addEq B f m' r c u) i = beu B i := by unfold beu addEq; simp [h]
      rw [e1, e2, e3, e4, e5]
      exact (cE i (by omega)).mv (eI _ (by omega) (by omega) (by omega) (by omega) (by omega) (by omega) (by omega)) (eI _ (by omega) (by omega) (by omega) (by omega) (by omega) (by omega) (by omega)) (eI _ (by omega) (by omega) (by omega) (by omega) (by omega) (by omega) (by omega))
  · have hl' : l < bnl B := hl
    rw [eI _ (by omega) (by omega) (by omega) (by omega) (by omega) (by omega) (by omega)]; exact (cL l hl').1
  · have hl' : l < bnl B := hl
    rw [eJ _ (by omega) (by omega) (by omega)]; exact (cL l hl').2 i hi
theorem t_nextEq (hB : CBS K A sb) (hC : CBC I J sb B) (he4 : bne B ≤ 4) : f_X0_nextEquation (some sb) (K, I, J, A) = some (if bne B = 4 then none else some (sb + 32 + 5 * bne B), (K, I, J, A)) := by
  apply wp_get'
  obtain ⟨b0, ⟨a0, a1, a2, a3, a4, a5, a6⟩, ⟨k1, k2, k3, k12, k13, k14, k15⟩, hl, hf, he⟩ := hB
  unfold f_X0_nextEquation
  refine b_getIv b0 hC.1.2.1 (b_getA b0 a1 (b_len k2 (by decide) ?_))
  by_cases h : bne B = 4
  · rw [if_pos h]
    exact wp_ifp (ge_t (by omega)) (wp_rt ⟨rfl, rfl⟩)
  · rw [if_neg h]
    refine wp_ifn (ge_f (by omega)) (b_getA b0 a1 (b_getIv b0 hC.1.2.1 (b_ldA k2 (by decide) (by omega) (by omega) (wp_rt ⟨?_, rfl⟩))))
    exact (he _ (by omega)).1
theorem t_tellEquation {Q : Unit → Hp → Prop} {v : Int64} {x : Nat} (hb : 64 ≤ sb) (hB : CBS K A sb) (h8 : I sb 8 = zn x) (hN : NmC I J sb N) (hN1 : N.1 < 16)
    (q : ∀ I' J', (∀ x, x ≠ sb → x ≠ sb + 14 → x ≠ sb + 15 → I' x = I x) → (∀ j, j ≠ 8 → j ≠ 10 → I' sb j = I sb j) → I' sb 8 = zn (x + 1) → (∀ x, x ≠ sb + 13 → J' x = J x) → NmC I' J' sb (addN N v 1 x) → Q () (K, I', J', A)) : wp (f_X0_tellEquation (some sb) v) Q (K, I, J, A) := by
  have b0 := hB.1
  unfold f_X0_tellEquation
  refine b_getIv b0 h8 (b_ck b0 (wp_bd (t_tell (s := 1) hb hB hN hN1 (fun I2 J2 g1 g2 g3 hN2 => ?_))))
  refine b_getIv b0 ((g2 8 (by decide)).trans h8) (b_putI b0 hb (wp_rt ?_))
  rw [zn_succ]
  refine q _ _ (fun z z1 z2 z3 => by rw [st2_nb z1]; exact g1 z z1 z2 z3) (fun j j1 j2 => by rw [st2_nk j1]; exact g2 j j2) st2_at g3 ⟨?_, fun k hk => ?_⟩
  · rw [st2_nk (by decide)]; exact hN2.1
  · obtain ⟨x1, x2, x3⟩ := hN2.2 k hk
    exact ⟨x1, by rw [st2_nb (by omega)]; exact x2, by rw [st2_nb (by omega)]; exact x3⟩
theorem CT.lo (h : CT I J kwC b n T t) (eI : ∀ x, 66 ≤ x → x < 72 → I' x = I x) (eJ : ∀ x, 66 ≤ x → x < 72 → J' x = J x) : CT I' J' kwC b n T t := by
  obtain ⟨⟨u1, u2, u3, u4⟩, ⟨v1, v2, v3⟩, z1, z2, z3, z4⟩ := h
  exact ⟨⟨u1, by rw [eI 66 (by omega) (by omega)]; exact u2, fun i hi => ⟨(u3 i hi).1, by rw [eI 67 (by omega) (by omega)]; exact (u3 i hi).2⟩, fun i hi => by rw [eJ 68 (by omega) (by omega)]; exact u4 i hi⟩, ⟨v1, by rw [eI 66 (by omega) (by omega)]; exact v2, fun s hs => ⟨(v3 s hs).1, by rw [eI 69 (by omega) (by omega)]; exact (v3 s hs).2.1, by rw [eJ 70 (by omega) (by omega)]; exact (v3 s hs).2.2.1, by rw [eI 71 (by omega) (by omega)]; exact (v3 s hs).2.2.2⟩⟩, z1, by rw [eI 66 (by omega) (by omega)]; exact z2, by rw [eI 66 (by omega) (by omega)]; exact z3, by rw [eJ 66 (by omega) (by omega)]; exact z4⟩
theorem sInF_t {f s : Nat} (h : sInF b n N t = Sum.inr (f, s)) : s = t + 2 := by
  unfold sInF at h
  repeat (first | (split at h; first | (exact absurd h (by simp)) | skip))
  exact ((Prod.mk.inj (Sum.inr.inj h)).2).symm
end
