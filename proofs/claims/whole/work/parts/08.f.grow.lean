/-! ===== new cells: what holds goes on to hold ===== -/
section
variable {β : Type} {kw : Nat → Int64} {K : List (Nat × Nat)} {I I' : Nat → Nat → Int32} {J J' : Nat → Nat → Int64} {A : Nat → Nat → Option Nat} {w : WD}
variable {K' : List (Nat × Nat)} {A' : Nat → Nat → Option Nat}
theorem kk_lt {a c n : Nat} (h : kk K a = (c, n)) (hc : c < 99) : a < K.length := by
  unfold kk at h
  by_cases h1 : a < K.length
  · exact h1
  · rw [List.getElem?_eq_none (by omega)] at h
    have h2 : (99, 0) = (c, n) := h
    have := congrArg Prod.fst h2
    dsimp only at this
    omega
theorem kk_app {L : List (Nat × Nat)} {a c n : Nat} (h : kk K a = (c, n)) (hc : c < 99) : kk (K ++ L) a = (c, n) := by
  rw [← h]
  unfold kk
  rw [List.getElem?_append_left (kk_lt h hc)]
theorem kk_new {q : Nat × Nat} : kk (K ++ [q]) K.length = q := by
  unfold kk
  rw [List.getElem?_append_right (by omega), Nat.sub_self]
  rfl
def Gr (K K' : List (Nat × Nat)) : Prop := ∀ a c n, c < 99 → kk K a = (c, n) → kk K' a = (c, n)
theorem gr_app {L : List (Nat × Nat)} : Gr K (K ++ L) := fun _ _ _ hc h => kk_app h hc
theorem Gr.rfl' : Gr K K := fun _ _ _ _ h => h
theorem Gr.trans {K'' : List (Nat × Nat)} (a : Gr K K') (b : Gr K' K'') : Gr K K'' := fun x c n hc h => b x c n hc (a x c n hc h)
theorem FS.ga {a : Nat} (h : FS K A a) (g : Gr K K') (e : A' a = A a) : FS K' A' a := by
  obtain ⟨h0, ⟨h1, h2, h3⟩, ⟨h4, h5, h6⟩, h7⟩ := h
  exact ⟨g _ _ _ (by decide) h0, ⟨by rw [e]; exact h1, by rw [e]; exact h2, by rw [e]; exact h3⟩, ⟨g _ _ _ (by decide) h4, g _ _ _ (by decide) h5, g _ _ _ (by decide) h6⟩, h7⟩
theorem ES.ga {a : Nat} (h : ES K A a) (g : Gr K K') (e : A' a = A a) : ES K' A' a := by
  obtain ⟨h0, ⟨h1, h2, h3, h3'⟩, ⟨h4, h5, h6, h6'⟩, h7⟩ := h
  exact ⟨g _ _ _ (by decide) h0, ⟨by rw [e]; exact h1, by rw [e]; exact h2, by rw [e]; exact h3, by rw [e]; exact h3'⟩, ⟨g _ _ _ (by decide) h4, g _ _ _ (by decide) h5, g _ _ _ (by decide) h6, g _ _ _ (by decide) h6'⟩, h7⟩
theorem OT.ga (h : OT K I) (g : Gr K K') (e0 : I' 0 = I 0) (e1 : I' 1 = I 1) : OT K' I' := by
  obtain ⟨h0, h1, h2, h3⟩ := h
  exact ⟨g _ _ _ (by decide) h0, g _ _ _ (by decide) h1, fun k => by rw [e0]; exact h2 k, fun k => by rw [e1]; exact h3 k⟩
theorem RS.ga {a : Nat} (h : RS K A a) (g : Gr K K') (e : A' a = A a) : RS K' A' a := by
  obtain ⟨h0, h1, h2, h3⟩ := h
  exact ⟨g _ _ _ (by decide) h0, by rw [e]; exact h1, g _ _ _ (by decide) h2, h3⟩
theorem SS.ga {a : Nat} (h : SS K A a) (g : Gr K K') (e : A' a = A a) : SS K' A' a := by
  obtain ⟨h0, ⟨h1, h2⟩, ⟨h3, h4⟩, h5⟩ := h
  exact ⟨g _ _ _ (by decide) h0, ⟨by rw [e]; exact h1, by rw [e]; exact h2⟩, ⟨g _ _ _ (by decide) h3, g _ _ _ (by decide) h4⟩, h5⟩
theorem GS.ga {a : Nat} (h : GS K A a) (g : Gr K K') (e : A' a = A a) : GS K' A' a := by
  obtain ⟨h0, ⟨h1, h2⟩, ⟨h3, h4⟩, h5⟩ := h
  exact ⟨g _ _ _ (by decide) h0, ⟨by rw [e]; exact h1, by rw [e]; exact h2⟩, ⟨g _ _ _ (by decide) h3, g _ _ _ (by decide) h4⟩, h5⟩
theorem DS.ga {a : Nat} (h : DS K A a) (g : Gr K K') (e : A' a = A a) : DS K' A' a := by
  obtain ⟨h0, h1⟩ := h
  exact ⟨g _ _ _ (by decide) h0, fun d hd => ⟨by rw [e]; exact (h1 d hd).1, g _ _ _ (by decide) (h1 d hd).2⟩⟩
theorem TS.ga (h : TS K A) (g : Gr K K') (e : A' 66 = A 66) : TS K' A' := by
  obtain ⟨h0, ⟨h1, h2, h3, h4, h5⟩, h6, h7, h8, h9, h10⟩ := h
  exact ⟨g _ _ _ (by decide) h0, ⟨by rw [e]; exact h1, by rw [e]; exact h2, by rw [e]; exact h3, by rw [e]; exact h4, by rw [e]; exact h5⟩, g _ _ _ (by decide) h6, g _ _ _ (by decide) h7, g _ _ _ (by decide) h8, g _ _ _ (by decide) h9, g _ _ _ (by decide) h10⟩
theorem RFS.ga {a : Nat} (h : RFS K A a) (g : Gr K K') (e : A' a = A a) : RFS K' A' a := by
  obtain ⟨h0, ⟨h1, h2⟩, ⟨h3, h4⟩, h5⟩ := h
  exact ⟨g _ _ _ (by decide) h0, ⟨by rw [e]; exact h1, by rw [e]; exact h2⟩, ⟨g _ _ _ (by decide) h3, g _ _ _ (by decide) h4⟩, h5⟩
theorem BS.ga {a : Nat} (h : BS K A a) (g : Gr K K') (e : A' a = A a) : BS K' A' a := by
  obtain ⟨h0, ⟨a4, a5, a6, a7, a8, a9, a10, a11, a12, a13, a14⟩, ⟨k1, k2, k3, k4, k5, k6, k7, k8, k9, k10, k11⟩, h5⟩ := h
  refine ⟨g _ _ _ (by decide) h0, ?_, ⟨g _ _ _ (by decide) k1, g _ _ _ (by decide) k2, g _ _ _ (by decide) k3, g _ _ _ (by decide) k4, g _ _ _ (by decide) k5, g _ _ _ (by decide) k6, g _ _ _ (by decide) k7, g _ _ _ (by decide) k8, g _ _ _ (by decide) k9, g _ _ _ (by decide) k10, g _ _ _ (by decide) k11⟩, h5⟩
  rw [e]
  exact ⟨a4, a5, a6, a7, a8, a9, a10, a11, a12, a13, a14⟩
theorem CBS.ga {b : Nat} (h : CBS K A b) (g : Gr K K') (e : ∀ x, b ≤ x → x < b + 52 → A' x = A x) : CBS K' A' b := by
  obtain ⟨b0, as, ⟨k1, k2, k3, k12, k13, k14, k15⟩, hl, hf, he⟩ := h
  refine ⟨g _ _ _ (by decide) b0, by rw [e b (by omega) (by omega)]; exact as, ⟨g _ _ _ (by decide) k1, g _ _ _ (by decide) k2, g _ _ _ (by decide) k3, g _ _ _ (by decide) k12, g _ _ _ (by decide) k13, g _ _ _ (by decide) k14, g _ _ _ (by decide) k15⟩, fun l hl' => ⟨by rw [e _ (by omega) (by omega)]; exact (hl l hl').1, g _ _ _ (by decide) (hl l hl').2⟩, fun i hi => ⟨by rw [e _ (by omega) (by omega)]; exact (hf i hi).1, (hf i hi).2.ga g (e _ (by omega) (by omega))⟩, fun i hi => ⟨by rw [e _ (by omega) (by omega)]; exact (he i hi).1, (he i hi).2.ga g (e _ (by omega) (by omega))⟩⟩
theorem MS.ga (h : MS K A 224) (g : Gr K K') (e : ∀ j, j ≠ 3 → A' 224 j = A 224 j) : MS K' A' 224 := by
  obtain ⟨h0, ⟨a5, a6, a7, a21, a22, a23, a24, a25, a26, a27⟩, ⟨k1, k2, k3, k4, k5, k6, k7, k8, k9, k10⟩, h5⟩ := h
  refine ⟨g _ _ _ (by decide) h0, ?_, ⟨g _ _ _ (by decide) k1, g _ _ _ (by decide) k2, g _ _ _ (by decide) k3, g _ _ _ (by decide) k4, g _ _ _ (by decide) k5, g _ _ _ (by decide) k6, g _ _ _ (by decide) k7, g _ _ _ (by decide) k8, g _ _ _ (by decide) k9, g _ _ _ (by decide) k10⟩, h5⟩
  rw [e _ (by decide), e _ (by decide), e _ (by decide), e _ (by decide), e _ (by decide), e _ (by decide), e _ (by decide), e _ (by decide), e _ (by decide), e _ (by decide)]
  exact ⟨a5, a6, a7, a21, a22, a23, a24, a25, a26, a27⟩
theorem PS.ga {sb sb' : Nat} (h : PS K A sb) (g : Gr K K') (e : ∀ x, 65 < x → x < 224 → A' x = A x) (e65 : ∀ j, j ≠ 5 → A' 65 j = A 65 j) (e5 : A' 65 5 = some sb') (hb : CBS K' A' sb') : PS K' A' sb' := by
  obtain ⟨h0, ⟨a0, a1, a2, a3, a4, a5⟩, t, r, d1, d2, d3, c⟩ := h
  refine ⟨g _ _ _ (by decide) h0, ?_, t.ga g (e _ (by decide) (by decide)), r.ga g (e _ (by decide) (by decide)), d1.ga g (e _ (by decide) (by decide)), d2.ga g (e _ (by decide) (by decide)), d3.ga g (e _ (by decide) (by decide)), hb⟩
  rw [e65 _ (by decide), e65 _ (by decide), e65 _ (by decide), e65 _ (by decide), e65 _ (by decide)]
  exact ⟨a0, a1, a2, a3, a4, e5⟩
theorem CSh.ga {nb nb' : Nat} (h : CSh K A nb) (g : Gr K K') (hn : nb' = 104 ∨ nb' = 172) (e : ∀ x, 65 < x → x < 224 → A' x = A x) (e64 : ∀ j, j ≠ 8 → A' 64 j = A 64 j) (e8 : A' 64 8 = some nb') (e65 : ∀ j, j ≠ 5 → A' 65 j = A 65 j) (e5 : A' 65 5 = some (276 - nb')) : CSh K' A' nb' := by
  obtain ⟨h0, h1, ⟨a0, a1, a2, a3, a4, a5, a6, a7, a8⟩, r, gs, ss, ⟨k1, k2, k3, k4⟩, cb, ps, ho⟩ := h
  have both : ∀ b, (b = 104 ∨ b = 172) → CBS K' A' b := by
    intro b hb
    by_cases h : b = nb
    · rw [h]; exact cb.ga g (fun x h1 h2 => e x (by omega) (by omega))
    · have : b = 276 - nb := by omega
      rw [this]
      exact ps.2.2.2.2.2.2.2.ga g (fun x h1 h2 => e x (by omega) (by omega))
  refine ⟨hn, g _ _ _ (by decide) h1, ?_, r.ga g (e _ (by decide) (by decide)), gs.ga g (e _ (by decide) (by decide)), ss.ga g (e _ (by decide) (by decide)), ⟨g _ _ _ (by decide) k1, g _ _ _ (by decide) k2, g _ _ _ (by decide) k3, g _ _ _ (by decide) k4⟩, both nb' hn, ps.ga g e e65 e5 (both _ (by omega)), g _ _ _ (by decide) ho⟩
  rw [e64 _ (by decide), e64 _ (by decide), e64 _ (by decide), e64 _ (by decide), e64 _ (by decide), e64 _ (by decide), e64 _ (by decide), e64 _ (by decide)]
  exact ⟨a0, a1, a2, a3, a4, a5, a6, a7, e8⟩
/-- a book of the reference -/
theorem RBC.ga {b : Nat} {B : BKD} (h : RBC K I J A b B) (hS : BS K A b) (g : Gr K K') (eI : ∀ x, 236 ≤ x → x < K.length → I' x = I x) (eJ : ∀ x, 236 ≤ x → x < K.length → J' x = J x) (eA : ∀ x, 236 ≤ x → x < K.length → A' x = A x) (hb : 236 ≤ b) : RBC K' I' J' A' b B := by
  have hl : b + 11 < K.length := kk_lt hS.2.2.1.2.2.2.2.2.2.2.2.2.2 (by decide)
  obtain ⟨⟨x1, x2, x3⟩, x4, x5, x6⟩ := h
  refine ⟨⟨?_, ?_, ?_⟩, fun f hf => ?_, fun i hi => ?_, fun l hl => ⟨?_, fun i hi => ?_⟩⟩
  · rw [eI b (by omega) (by omega)]; exact x1
  · rw [eI b (by omega) (by omega)]; exact x2
  · rw [eI b (by omega) (by omega)]; exact x3
  · obtain ⟨fo, z1, z2, z3, z4⟩ := x4 f hf
    have hl : fo + 2 < K.length := kk_lt z3.2.2.1.2 (by decide)
    refine ⟨fo, by rw [eA _ (by omega) (by omega)]; exact z1, z2, z3.ga g (eA _ (by omega) (by omega)), (z4.mvI (eI _ (by omega) (by omega)) (eI _ (by omega) (by omega))).mv (eJ _ (by omega) (by omega))⟩
  · obtain ⟨z1, z2, z3, z4⟩ := x5 i hi
    exact ⟨by rw [eI _ (by omega) (by omega)]; exact z1, by rw [eI _ (by omega) (by omega)]; exact z2, by rw [eI _ (by omega) (by omega)]; exact z3, fun t ht => ⟨by rw [eI _ (by omega) (by omega)]; exact (z4 t ht).1, by rw [eI _ (by omega) (by omega)]; exact (z4 t ht).2⟩⟩
  · rw [eI _ (by omega) (by omega)]; exact (x6 l hl).1
  · rw [eJ _ (by omega) (by omega)]; exact (x6 l hl).2 i hi
theorem RBk.ga {B : BKD} (h : RBk K I J A B) (g : Gr K K') (eI : ∀ x, 236 ≤ x → x < K.length → I' x = I x) (eJ : ∀ x, 236 ≤ x → x < K.length → J' x = J x) (eA : ∀ x, 236 ≤ x → x < K.length → A' x = A x) (e3 : A' 224 3 = A 224 3) : RBk K' I' J' A' B := by
  rcases h with ⟨y1, y2⟩ | ⟨b, y1, y2, y3, y4, y5⟩
  · exact Or.inl ⟨e3.trans y1, y2⟩
  · have hl : b + 11 < K.length := kk_lt y3.2.2.1.2.2.2.2.2.2.2.2.2.2 (by decide)
    exact Or.inr ⟨b, e3.trans y1, y2, y3.ga g (eA _ (by omega) (by omega)), y4.ga y3 g eI eJ eA y2, y5⟩
theorem Core.len (h : Core kw K I J A w) : 235 < K.length := kk_lt h.sh.2.2.2.2.2.2.2.2.2 (by decide)
/-- new cells only -/
theorem Core.ga (h : Core kw K I J A w) (g : Gr K K') (eI : ∀ x, x < K.length → I' x = I x) (eJ : ∀ x, x < K.length → x ≠ 235 → J' x = J x) (eA : ∀ x, x < K.length → A' x = A x) : Core kw K' I' J' A' w := by
  have hl := h.len
  have h1 : Core kw K' I J A' w := by
    obtain ⟨nb, w⟩ := w
    unfold Core at h ⊢
    dsimp only at h ⊢
    obtain ⟨⟨a1, a2, a3, a4⟩, ⟨b1, b2⟩, c⟩ := h
    refine ⟨⟨a1.ga g a1.1 (fun x _ _ => eA x (by omega)) (fun j _ => by rw [eA 64 (by omega)]) (by rw [eA 64 (by omega)]; exact a1.2.2.1.2.2.2.2.2.2.2.2) (fun j _ => by rw [eA 65 (by omega)]) (by rw [eA 65 (by omega)]; exact a1.2.2.2.2.2.2.2.2.1.2.1.2.2.2.2.2), a2.ga g (fun j _ => by rw [eA 224 (by omega)]), a3.ga g rfl rfl, a4⟩, ⟨b1, b2.ga g (fun _ _ _ => rfl) (fun _ _ _ => rfl) (fun x _ h => eA x h) (by rw [eA 224 (by omega)])⟩, c⟩
  obtain ⟨nb, w⟩ := w
  unfold Core at h h1 ⊢
  dsimp only at h h1 ⊢
  obtain ⟨⟨a1, a2, a3, a4⟩, ⟨b1, b2⟩, ⟨c1, c2, c3⟩, ⟨d1, d2, d3, d4⟩, ⟨e1, e2, e3, e4⟩⟩ := h1
  have hnb := a1.1
  have hb2 := h.2.1.2
  obtain ⟨⟨o1, o2⟩, ⟨o3, o4⟩, ⟨o5, o6⟩⟩ := a4
  refine ⟨⟨a1, a2, a3.ga Gr.rfl' (eI 0 (by omega)) (eI 1 (by omega)), ⟨o1, o2⟩, ⟨o3, o4⟩, ⟨o5, o6⟩⟩, ⟨?_, ?_⟩, ⟨?_, ?_, c3⟩, ⟨d1, ?_, ?_, fun i hi => ?_⟩, ⟨?_, ?_, ?_, fun i hi => ?_⟩⟩
  · obtain ⟨⟨x1, x2, x3⟩, x4, x5, x6⟩ := b1
    refine ⟨⟨?_, ?_, ?_⟩, fun f hf => ?_, fun i hi => ?_, fun l hl => ⟨?_, fun i hi => ?_⟩⟩
    · rw [eI nb (by omega)]; exact x1
    · rw [eI nb (by omega)]; exact x2
    · rw [eI nb (by omega)]; exact x3
    · exact (x4 f hf).mv (eI _ (by omega)) (eI _ (by omega)) (eI _ (by omega))
    · exact (x5 i hi).mv (eI _ (by omega)) (eI _ (by omega)) (eI _ (by omega))
    · rw [eI _ (by omega)]; exact (x6 l hl).1
    · rw [eJ _ (by omega) (by omega)]; exact (x6 l hl).2 i hi
  · exact hb2.ga g (fun x _ h => eI x h) (fun x h1 h => eJ x h (by omega)) (fun x _ h => eA x h) (by rw [eA 224 (by omega)])
  · exact c1.mv (eI _ (by omega)) (eJ _ (by omega) (by omega)) (eJ _ (by omega) (by omega))
  · exact c2.mv (fun j hj => by rw [eI 224 (by omega)]) (eJ _ (by omega) (by omega)) (eJ _ (by omega) (by omega)) (eJ _ (by omega) (by omega)) (eJ _ (by omega) (by omega))
  · rw [eI _ (by omega)]; exact d2
  · rw [eI _ (by omega)]; exact d3
  · rw [eI 67 (by omega), eI 227 (by omega)]; exact d4 i hi
  · rw [eI _ (by omega)]; exact e1
  · rw [eI _ (by omega)]; exact e2
  · rw [eI _ (by omega)]; exact e3
  · rw [eJ _ (by omega) (by omega)]; exact e4 i hi
end
