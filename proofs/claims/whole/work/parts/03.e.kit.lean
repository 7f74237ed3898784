/-! ===== arrays ===== -/
section SNA
variable {α : Type} {cx : CX} {y : MD} {enc : α → Option LV} {pc : Nat} {ls : List (Nat × LV)} {st : List LV} {F : Mo α}
theorem ts_arr {g : Gl} (hg : gok g) {h : Hp} {H : Heap} (w : wr g h H) {a t n : Nat} (e : kd h a = (t, n)) (h1 : 2 ≤ t) (h2 : t < 8) : 64 ≤ a ∧ va_at (gD g) vwCl (ad g a, tcell g h a (t, n)) H := by
  have e1 := kd_get e (show t ≠ 99 by omega)
  have ha := wr_new hg w e1 (show ¬ t = 1 by omega) (show t < 9 by omega)
  exact ⟨ha, wr_at w ha e1 h2⟩
theorem va_P1 {D : va_G} {cl : List vw_C} {a : Nat} {e : va_E} {H : Heap} (hat : va_at D cl (a, e) H) : va_P D cl [(a, e)] H := by
  intro j q hq
  cases j with
  | zero => cases hq; exact hat
  | succ j => cases hq
theorem tysG_at (g : Gl) {t : Nat} (h1 : 1 ≤ t) (h2 : t < 8) : (tysG g)[t - 1]? = some (gC g t, aty t) := by
  rcases t with _ | _ | _ | _ | _ | _ | _ | _ | t
  · omega
  all_goals first | rfl | omega
theorem old_x {cx : CX} {y : MD} (ok : Okc cx y) {h : Hp} {H : Heap} {locs : List Loc} (hR : Rdy cx h H locs) {a n : Nat} (e : kd h a = (1, n)) (ha : a < 64) : va_T .int (ad cx.1 a) n (fun j => .int (h.2.1 a j)) (gA cx.1) cx.2.2.2.2.1 cx.2.2.2.2.1.heap := by
  have hg := ok.2.2.2.2.2.2.2.2.2.2.2.1
  have hst := ok.2.2.2.2.2.2.2.2.2.2.1
  have e1 := kd_get e (show 1 ≠ 99 by decide)
  rw [wr_old hg hR.1 ha] at e1
  have h1 := hst.2.1.1 a n e1
  have had : ad cx.1 a = gO cx.1 a := if_pos ha
  rw [had, hR.1.2.1 a ha]
  exact h1
theorem sn_iaload (d : decode y.2.2.1 pc = .ok (.iaload, 1)) {o : Option Nat} {i : Int32} {G : Int32 → Mo α} (kk : ∀ x, Sn cx y enc (pc + 1) ls (vI x :: st) (G x)) : Sn cx y enc pc ls (vI i :: vA o :: st) (mBd (mLdI 1 o i) G) := by
  refine ⟨fun h r h' e => ?_, fun ok h r h' hF hE H locs lsA hR hm hll => ?_⟩
  · obtain ⟨x, h1, e1, e2⟩ := bd_inv e
    cases o with
    | none => cases e1
    | some a =>
      unfold mLdI at e1
      dsimp only at e1
      split at e1
      · cases e1; exact (kk _).1 _ _ _ e2
      · cases e1
  · obtain ⟨x, h1, e1, e2⟩ := bd_inv hF
    cases o with
    | none => cases e1
    | some a =>
      unfold mLdI at e1
      dsimp only at e1
      split at e1
      · rename_i hc
        cases e1
        have K := (kk _).2 ok _ _ _ e2 hE H locs lsA hR hm hll
        have hkd : kd h a = (1, (kd h a).2) := by rw [← hc.1]
        by_cases ha : a < 64
        · exact va_ti ok.1 ok.2.1 (old_x ok hR hkd ha) hR.2.1 hc.2 rfl d K
        · have e1 := kd_get hkd (show 1 ≠ 99 by decide)
          exact va_iald ok.1 ok.2.1 ok.2.2.2.2.2.2.2.2.2.2.1.1 (va_P1 (wr_at hR.1 (Nat.le_of_not_lt ha) e1 (show 1 < 8 by decide))) 0 0 rfl rfl hc.2 d K
      · cases e1
theorem sn_baload (d : decode y.2.2.1 pc = .ok (.baload, 1)) {o : Option Nat} {i : Int32} {G : Int32 → Mo α} (kk : ∀ x, Sn cx y enc (pc + 1) ls (vI x :: st) (G x)) : Sn cx y enc pc ls (vI i :: vA o :: st) (mBd (mLdI 3 o i) G) := by
  refine ⟨fun h r h' e => ?_, fun ok h r h' hF hE H locs lsA hR hm hll => ?_⟩
  · obtain ⟨x, h1, e1, e2⟩ := bd_inv e
    cases o with
    | none => cases e1
    | some a =>
      unfold mLdI at e1
      dsimp only at e1
      split at e1
      · cases e1; exact (kk _).1 _ _ _ e2
      · cases e1
  · obtain ⟨x, h1, e1, e2⟩ := bd_inv hF
    cases o with
    | none => cases e1
    | some a =>
      unfold mLdI at e1
      dsimp only at e1
      split at e1
      · rename_i hc
        cases e1
        have K := (kk _).2 ok _ _ _ e2 hE H locs lsA hR hm hll
        have hkd : kd h a = (3, (kd h a).2) := by rw [← hc.1]
        obtain ⟨ha, hat⟩ := ts_arr ok.2.2.2.2.2.2.2.2.2.2.2.1 hR.1 hkd (by decide) (by decide)
        exact va_bald ok.1 ok.2.1 ok.2.2.2.2.2.2.2.2.2.2.1.1 (va_P1 hat) 0 2 rfl rfl hc.2 d K
      · cases e1
theorem sn_laload (d : decode y.2.2.1 pc = .ok (.laload, 1)) {o : Option Nat} {i : Int32} {G : Int64 → Mo α} (kk : ∀ x, Sn cx y enc (pc + 1) ls (vJ x :: st) (G x)) : Sn cx y enc pc ls (vI i :: vA o :: st) (mBd (mLdJ o i) G) := by
  refine ⟨fun h r h' e => ?_, fun ok h r h' hF hE H locs lsA hR hm hll => ?_⟩
  · obtain ⟨x, h1, e1, e2⟩ := bd_inv e
    cases o with
    | none => cases e1
    | some a =>
      unfold mLdJ at e1
      dsimp only at e1
      split at e1
      · cases e1; exact (kk _).1 _ _ _ e2
      · cases e1
  · obtain ⟨x, h1, e1, e2⟩ := bd_inv hF
    cases o with
    | none => cases e1
    | some a =>
      unfold mLdJ at e1
      dsimp only at e1
      split at e1
      · rename_i hc
        cases e1
        have K := (kk _).2 ok _ _ _ e2 hE H locs lsA hR hm hll
        have hkd : kd h a = (2, (kd h a).2) := by rw [← hc.1]
        obtain ⟨ha, hat⟩ := ts_arr ok.2.2.2.2.2.2.2.2.2.2.2.1 hR.1 hkd (by decide) (by decide)
        exact va_lald ok.1 ok.2.1 ok.2.2.2.2.2.2.2.2.2.2.1.1 (va_P1 hat) 0 1 rfl rfl hc.2 d K
      · cases e1
theorem tcell_ref {g : Gl} {h : Hp} {a t n : Nat} (h1 : 4 ≤ t) : tcell g h a (t, n) = .inl (gC g t, n, .inr (.inr (.inr (.inr (fun j => (h.2.2.2 a j).map (ad g)))))) := by
  rcases t with _ | _ | _ | _ | t
  · omega
  · omega
  · omega
  · omega
  · rfl
theorem aty_ref {t : Nat} (h1 : 4 ≤ t) : (aty t).isReference = true := by
  rcases t with _ | _ | _ | _ | _ | _ | _ | t
  · omega
  · omega
  · omega
  · omega
  all_goals rfl
theorem sn_aaload {t : Nat} (d : decode y.2.2.1 pc = .ok (.aaload, 1)) {o : Option Nat} {i : Int32} {G : Option Nat → Mo α} (kk : ∀ x, Sn cx y enc (pc + 1) ls (vA x :: st) (G x)) : Sn cx y enc pc ls (vI i :: vA o :: st) (mBd (mLdA t o i) G) := by
  refine ⟨fun h r h' e => ?_, fun ok h r h' hF hE H locs lsA hR hm hll => ?_⟩
  · obtain ⟨x, h1, e1, e2⟩ := bd_inv e
    cases o with
    | none => cases e1
    | some a =>
      unfold mLdA at e1
      dsimp only at e1
      split at e1
      · cases e1; exact (kk _).1 _ _ _ e2
      · cases e1
  · obtain ⟨x, h1, e1, e2⟩ := bd_inv hF
    cases o with
    | none => cases e1
    | some a =>
      unfold mLdA at e1
      dsimp only at e1
      split at e1
      · rename_i hc
        cases e1
        have K := (kk _).2 ok _ _ _ e2 hE H locs lsA hR hm hll
        have hkd : kd h a = (t, (kd h a).2) := by rw [← hc.1.1]
        obtain ⟨ha, hat⟩ := ts_arr ok.2.2.2.2.2.2.2.2.2.2.2.1 hR.1 hkd (by omega) hc.1.2.2
        rw [tcell_ref hc.1.2.1] at hat
        have hcell : H[ad cx.1 a]? = some (arrV (gC cx.1 t) (kd h a).2 (fun j => va_rf ((h.2.2.2 a j).map (ad cx.1)))) := hat
        have harr := (ok.2.2.2.2.2.2.2.2.2.2.1.1.2 (t - 1) _ (tysG_at cx.1 (by omega) hc.1.2.2)).1 (kd h a).2 (fun j => va_rf ((h.2.2.2 a j).map (ad cx.1)))
        have hin := Nat.lt_of_not_le (fun z => hc.2 (Or.inr z))
        exact W.aald ok.1 ok.2.1 hcell harr (aty_ref hc.1.2.1) (fun z => by cases z) (by rw [show (arrV (gC cx.1 t) (kd h a).2 (fun j => va_rf ((h.2.2.2 a j).map (ad cx.1)))).slots.size = (kd h a).2 from Array.size_ofFn]; exact hc.2) (v := va_rf ((h.2.2.2 a i.toNatClampNeg).map (ad cx.1))) (by
          show (Array.ofFn _)[i.toNatClampNeg]? = _
          rw [Array.getElem?_eq_getElem (by rw [Array.size_ofFn]; exact hin), Array.getElem_ofFn]) rfl rfl d K
      · cases e1
theorem sn_alen (d : decode y.2.2.1 pc = .ok (.arraylength, 1)) {o : Option Nat} {G : Int32 → Mo α} (kk : ∀ x, Sn cx y enc (pc + 1) ls (vI x :: st) (G x)) : Sn cx y enc pc ls (vA o :: st) (mBd (mLen o) G) := by
  refine ⟨fun h r h' e => ?_, fun ok h r h' hF hE H locs lsA hR hm hll => ?_⟩
  · obtain ⟨x, h1, e1, e2⟩ := bd_inv e
    cases o with
    | none => cases e1
    | some a =>
      unfold mLen at e1
      dsimp only at e1
      split at e1
      · cases e1; exact (kk _).1 _ _ _ e2
      · cases e1
  · obtain ⟨x, h1, e1, e2⟩ := bd_inv hF
    cases o with
    | none => cases e1
    | some a =>
      unfold mLen at e1
      dsimp only at e1
      split at e1
      · rename_i hc
        cases e1
        have K := (kk _).2 ok _ _ _ e2 hE H locs lsA hR hm hll
        by_cases h1 : (kd h a).1 = 1
        · have hkd : kd h a = (1, (kd h a).2) := by rw [← h1]
          by_cases ha : a < 64
          · exact va_tlen ok.1 ok.2.1 (old_x ok hR hkd ha) hR.2.1 rfl d K
          · have e1 := kd_get hkd (show 1 ≠ 99 by decide)
            exact va_alen ok.1 ok.2.1 ok.2.2.2.2.2.2.2.2.2.2.1.1 (va_P1 (wr_at hR.1 (Nat.le_of_not_lt ha) e1 (show 1 < 8 by decide))) 0 0 rfl rfl rfl d K
        · have hkd : kd h a = ((kd h a).1, (kd h a).2) := rfl
          obtain ⟨ha, hat⟩ := ts_arr ok.2.2.2.2.2.2.2.2.2.2.2.1 hR.1 hkd (by omega) hc.2
          obtain ⟨x9, hx9, hx8⟩ : ∃ x9 : vp_A, tcell cx.1 h a ((kd h a).1, (kd h a).2) = .inl (gC cx.1 (kd h a).1, x9) ∧ x9.1 = (kd h a).2 := by
            generalize (kd h a).1 = t at hc h1
            rcases t with _ | _ | _ | _ | t
            · omega
            · omega
            · exact ⟨_, rfl, rfl⟩
            · exact ⟨_, rfl, rfl⟩
            · exact ⟨_, rfl, rfl⟩
          rw [hx9] at hat
          exact va_alen ok.1 ok.2.1 ok.2.2.2.2.2.2.2.2.2.2.1.1 (va_P1 hat) 0 ((kd h a).1 - 1) rfl (tysG_at cx.1 (by omega) hc.2) (by rw [hx8]) d K
      · cases e1
end SNA
