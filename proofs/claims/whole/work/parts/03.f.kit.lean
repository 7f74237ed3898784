/-! ===== writes to arrays ===== -/
section SNW
variable {α : Type} {cx : CX} {y : MD} {enc : α → Option LV} {pc : Nat} {ls : List (Nat × LV)} {st : List LV} {F : Mo α}
theorem sn_iastore (d : decode y.2.2.1 pc = .ok (.iastore, 1)) {o : Option Nat} {i : Int32} {x : Int32} {G : Unit → Mo α} (kk : Sn cx y enc (pc + 1) ls st (G ())) : Sn cx y enc pc ls (vI x :: vI i :: vA o :: st) (mBd (mStI o i x) G) := by
  refine ⟨fun h r h' e => ?_, fun ok h r h' hF hE H locs lsA hR hm hll => ?_⟩
  · obtain ⟨u, h1, e1, e2⟩ := bd_inv e
    cases o with
    | none => cases e1
    | some a =>
      unfold mStI at e1
      dsimp only at e1
      split at e1
      · cases e1
        obtain ⟨ext, hx⟩ := kk.1 _ _ _ e2
        exact ⟨ext, hx⟩
      · cases e1
  · obtain ⟨u, h1, e1, e2⟩ := bd_inv hF
    cases o with
    | none => cases e1
    | some a =>
      unfold mStI at e1
      dsimp only at e1
      split at e1
      · rename_i hc
        cases e1
        have hkd : kd h a = (1, (kd h a).2) := by rw [← hc.1.1]
        have e3 := kd_get hkd (show 1 ≠ 99 by decide)
        have hat := wr_at hR.1 hc.1.2 e3 (show 1 < 8 by decide)
        have hcell : H[ad cx.1 a]? = some (arrV (gC cx.1 1) (kd h a).2 (fun j => Value.int (h.2.1 a j))) := hat
        have harr := (ok.2.2.2.2.2.2.2.2.2.2.1.1.2 0 _ rfl).1 (kd h a).2 (fun j => Value.int (h.2.1 a j))
        refine W.iast ok.1 ok.2.1 hcell harr (fun z => by cases z) (by rw [show (arrV (gC cx.1 1) (kd h a).2 (fun j => Value.int (h.2.1 a j))).slots.size = (kd h a).2 from Array.size_ofFn]; exact hc.2) rfl rfl d (fun H1 z1 z2 z3 => ?_)
        rw [arrV_store] at z1
        have w1 : wr cx.1 (h.1, st1 h.2.1 a (st1 (h.2.1 a) i.toNatClampNeg x), h.2.2.1, h.2.2.2) H1 := wr_put (h1 := (h.1, st1 h.2.1 a (st1 (h.2.1 a) i.toNatClampNeg x), h.2.2.1, h.2.2.2)) hR.1 hc.1.2 e3 rfl (fun b hb => st1_ne hb) (fun _ _ => rfl) (fun _ _ => rfl) z2 z3 (by
          show H1[ad cx.1 a]? = some (arrV (gC cx.1 1) (kd h a).2 (fun j => Value.int (st1 h.2.1 a (st1 (h.2.1 a) i.toNatClampNeg x) a j)))
          rw [z1]
          congr 2
          funext j
          rw [st1_eq]
          unfold updV st1
          by_cases hj : j = i.toNatClampNeg
          · rw [if_pos hj, if_pos hj]
          · rw [if_neg hj, if_neg hj])
        exact Wc_same (h1 := (h.1, st1 h.2.1 a (st1 (h.2.1 a) i.toNatClampNeg x), h.2.2.1, h.2.2.2)) rfl (kk.2 ok _ _ _ e2 hE H1 _ lsA (Rdy_put (h1 := (h.1, st1 h.2.1 a (st1 (h.2.1 a) i.toNatClampNeg x), h.2.2.1, h.2.2.2)) hR rfl w1 z2 (ad_A hc.1.2) z3) hm hll)
      · cases e1
theorem sn_bastore (d : decode y.2.2.1 pc = .ok (.bastore, 1)) {o : Option Nat} {i : Int32} {x : Int32} {G : Unit → Mo α} (kk : Sn cx y enc (pc + 1) ls st (G ())) : Sn cx y enc pc ls (vI x :: vI i :: vA o :: st) (mBd (mStB o i x) G) := by
  refine ⟨fun h r h' e => ?_, fun ok h r h' hF hE H locs lsA hR hm hll => ?_⟩
  · obtain ⟨u, h1, e1, e2⟩ := bd_inv e
    cases o with
    | none => cases e1
    | some a =>
      unfold mStB at e1
      dsimp only at e1
      split at e1
      · cases e1
        obtain ⟨ext, hx⟩ := kk.1 _ _ _ e2
        exact ⟨ext, hx⟩
      · cases e1
  · obtain ⟨u, h1, e1, e2⟩ := bd_inv hF
    cases o with
    | none => cases e1
    | some a =>
      unfold mStB at e1
      dsimp only at e1
      split at e1
      · rename_i hc
        cases e1
        have hkd : kd h a = (3, (kd h a).2) := by rw [← hc.1.1]
        have e3 := kd_get hkd (show 3 ≠ 99 by decide)
        have hat := wr_at hR.1 hc.1.2 e3 (show 3 < 8 by decide)
        have hcell : H[ad cx.1 a]? = some (arrV (gC cx.1 3) (kd h a).2 (fun j => Value.int (h.2.1 a j))) := hat
        have harr := (ok.2.2.2.2.2.2.2.2.2.2.1.1.2 2 _ rfl).1 (kd h a).2 (fun j => Value.int (h.2.1 a j))
        refine W.bast ok.1 ok.2.1 hcell harr (fun z => by cases z) (by rw [show (arrV (gC cx.1 3) (kd h a).2 (fun j => Value.int (h.2.1 a j))).slots.size = (kd h a).2 from Array.size_ofFn]; exact hc.2) rfl rfl d (fun H1 z1 z2 z3 => ?_)
        rw [arrV_store] at z1
        have w1 : wr cx.1 (h.1, st1 h.2.1 a (st1 (h.2.1 a) i.toNatClampNeg x.toInt8.toInt32), h.2.2.1, h.2.2.2) H1 := wr_put (h1 := (h.1, st1 h.2.1 a (st1 (h.2.1 a) i.toNatClampNeg x.toInt8.toInt32), h.2.2.1, h.2.2.2)) hR.1 hc.1.2 e3 rfl (fun b hb => st1_ne hb) (fun _ _ => rfl) (fun _ _ => rfl) z2 z3 (by
          show H1[ad cx.1 a]? = some (arrV (gC cx.1 3) (kd h a).2 (fun j => Value.int (st1 h.2.1 a (st1 (h.2.1 a) i.toNatClampNeg x.toInt8.toInt32) a j)))
          rw [z1]
          congr 2
          funext j
          rw [st1_eq]
          unfold updV st1
          by_cases hj : j = i.toNatClampNeg
          · rw [if_pos hj, if_pos hj]
            rfl
          · rw [if_neg hj, if_neg hj])
        exact Wc_same (h1 := (h.1, st1 h.2.1 a (st1 (h.2.1 a) i.toNatClampNeg x.toInt8.toInt32), h.2.2.1, h.2.2.2)) rfl (kk.2 ok _ _ _ e2 hE H1 _ lsA (Rdy_put (h1 := (h.1, st1 h.2.1 a (st1 (h.2.1 a) i.toNatClampNeg x.toInt8.toInt32), h.2.2.1, h.2.2.2)) hR rfl w1 z2 (ad_A hc.1.2) z3) hm hll)
      · cases e1
theorem sn_lastore (d : decode y.2.2.1 pc = .ok (.lastore, 1)) {o : Option Nat} {i : Int32} {x : Int64} {G : Unit → Mo α} (kk : Sn cx y enc (pc + 1) ls st (G ())) : Sn cx y enc pc ls (vJ x :: vI i :: vA o :: st) (mBd (mStJ o i x) G) := by
  refine ⟨fun h r h' e => ?_, fun ok h r h' hF hE H locs lsA hR hm hll => ?_⟩
  · obtain ⟨u, h1, e1, e2⟩ := bd_inv e
    cases o with
    | none => cases e1
    | some a =>
      unfold mStJ at e1
      dsimp only at e1
      split at e1
      · cases e1
        obtain ⟨ext, hx⟩ := kk.1 _ _ _ e2
        exact ⟨ext, hx⟩
      · cases e1
  · obtain ⟨u, h1, e1, e2⟩ := bd_inv hF
    cases o with
    | none => cases e1
    | some a =>
      unfold mStJ at e1
      dsimp only at e1
      split at e1
      · rename_i hc
        cases e1
        have hkd : kd h a = (2, (kd h a).2) := by rw [← hc.1.1]
        have e3 := kd_get hkd (show 2 ≠ 99 by decide)
        have hat := wr_at hR.1 hc.1.2 e3 (show 2 < 8 by decide)
        have hcell : H[ad cx.1 a]? = some (arrV (gC cx.1 2) (kd h a).2 (fun j => Value.long (h.2.2.1 a j))) := hat
        have harr := (ok.2.2.2.2.2.2.2.2.2.2.1.1.2 1 _ rfl).1 (kd h a).2 (fun j => Value.long (h.2.2.1 a j))
        refine W.last ok.1 ok.2.1 hcell harr (fun z => by cases z) (by rw [show (arrV (gC cx.1 2) (kd h a).2 (fun j => Value.long (h.2.2.1 a j))).slots.size = (kd h a).2 from Array.size_ofFn]; exact hc.2) rfl rfl d (fun H1 z1 z2 z3 => ?_)
        rw [arrV_store] at z1
        have w1 : wr cx.1 (h.1, h.2.1, st1 h.2.2.1 a (st1 (h.2.2.1 a) i.toNatClampNeg x), h.2.2.2) H1 := wr_put (h1 := (h.1, h.2.1, st1 h.2.2.1 a (st1 (h.2.2.1 a) i.toNatClampNeg x), h.2.2.2)) hR.1 hc.1.2 e3 rfl (fun _ _ => rfl) (fun b hb => st1_ne hb) (fun _ _ => rfl) z2 z3 (by
          show H1[ad cx.1 a]? = some (arrV (gC cx.1 2) (kd h a).2 (fun j => Value.long (st1 h.2.2.1 a (st1 (h.2.2.1 a) i.toNatClampNeg x) a j)))
          rw [z1]
          congr 2
          funext j
          rw [st1_eq]
          unfold updV st1
          by_cases hj : j = i.toNatClampNeg
          · rw [if_pos hj, if_pos hj]
          · rw [if_neg hj, if_neg hj])
        exact Wc_same (h1 := (h.1, h.2.1, st1 h.2.2.1 a (st1 (h.2.2.1 a) i.toNatClampNeg x), h.2.2.2)) rfl (kk.2 ok _ _ _ e2 hE H1 _ lsA (Rdy_put (h1 := (h.1, h.2.1, st1 h.2.2.1 a (st1 (h.2.2.1 a) i.toNatClampNeg x), h.2.2.2)) hR rfl w1 z2 (ad_A hc.1.2) z3) hm hll)
      · cases e1
theorem aty_aC {t : Nat} (h : t = 4 ∨ t = 5 ∨ t = 7) : ∃ q : vw_C, vwCl[aC t]? = some q ∧ aty t = .object q.1 := by
  rcases h with h | h | h <;> (subst h; exact ⟨_, rfl, rfl⟩)
theorem sn_aastore {t : Nat} (d : decode y.2.2.1 pc = .ok (.aastore, 1)) {o x : Option Nat} {i : Int32} {G : Unit → Mo α} (kk : Sn cx y enc (pc + 1) ls st (G ())) : Sn cx y enc pc ls (vA x :: vI i :: vA o :: st) (mBd (mStA t o i x) G) := by
  refine ⟨fun h r h' e => ?_, fun ok h r h' hF hE H locs lsA hR hm hll => ?_⟩
  · obtain ⟨u, h1, e1, e2⟩ := bd_inv e
    unfold mStA at e1
    split at e1
    · split at e1
      · cases e1
        obtain ⟨ext, hx⟩ := kk.1 _ _ _ e2
        exact ⟨ext, hx⟩
      · cases e1
    · cases e1
  · obtain ⟨u, h1, e1, e2⟩ := bd_inv hF
    unfold mStA at e1
    split at e1
    · rename_i a v
      split at e1
      · rename_i hc
        cases e1
        obtain ⟨⟨⟨ht, ht3⟩, ha, hkv, hv⟩, hin⟩ := hc
        have hkd : kd h a = (t, (kd h a).2) := by rw [← ht]
        have e3 := kd_get hkd (show t ≠ 99 by omega)
        have ht8 : t < 8 := by omega
        have hat := wr_at hR.1 ha e3 ht8
        rw [tcell_ref (by omega)] at hat
        have hcell : H[ad cx.1 a]? = some (arrV (gC cx.1 t) (kd h a).2 (fun j => va_rf ((h.2.2.2 a j).map (ad cx.1)))) := hat
        obtain ⟨-, hK0⟩ := ok.2.2.2.2.2.2.2.2.2.2.1.1
        obtain ⟨hArr, hRA⟩ := hK0 (t - 1) _ (tysG_at cx.1 (by omega) ht8)
        obtain ⟨cq, hcq, haty⟩ := aty_aC ht3
        rw [haty] at hRA
        obtain ⟨kA, comp, g1, g2, g3, -⟩ := hRA
        have hvat := wr_at hR.1 hv (kd_get hkv (show 0 ≠ 99 by decide)) (show 0 < 8 by decide)
        obtain ⟨r0, b1, cellv, b2, b3, b4, -⟩ := hvat
        have hr0 : r0 = cq := Option.some.inj (b1.symm.trans hcq)
        subst hr0
        obtain ⟨-, hfc, kC, hkC, hkind⟩ := ok.2.2.2.2.2.2.2.2.2.2.1.1.1 _ _ hcq
        have hcomp : comp = (gD cx.1).1 (aC t) := Option.some.inj (g3.symm.trans hfc)
        have hsz : (arrV (gC cx.1 t) (kd h a).2 (fun j => va_rf ((h.2.2.2 a j).map (ad cx.1)))).slots.size = (kd h a).2 := Array.size_ofFn
        refine W.aast (cv := cellv) (kv := kC) (kcomp := kC) ok.1 ok.2.1 hcell (fun _ z => by cases z) (fun z => by cases z) g1 g2 rfl (by rw [hcomp]; exact hkC) (by rw [hsz]; exact ⟨fun z => hin (Or.inl z), Nat.lt_of_not_le (fun z => hin (Or.inr z))⟩) b2 (fun q z => by rw [b4] at z; cases z) (by rw [b3]; exact hkC) (by rw [b3, hcomp]; exact va_asg _ _) rfl rfl d (fun H1 z1 z2 z3 => ?_)
        rw [arrV_store] at z1
        have w1 : wr cx.1 (h.1, h.2.1, h.2.2.1, st1 h.2.2.2 a (st1 (h.2.2.2 a) i.toNatClampNeg (some v))) H1 := wr_put (h1 := (h.1, h.2.1, h.2.2.1, st1 h.2.2.2 a (st1 (h.2.2.2 a) i.toNatClampNeg (some v)))) hR.1 ha e3 rfl (fun _ _ => rfl) (fun _ _ => rfl) (fun b hb => st1_ne hb) z2 z3 (by
          rw [tcell_ref (by omega)]
          show H1[ad cx.1 a]? = some (arrV (gC cx.1 t) (kd h a).2 (fun j => va_rf ((st1 h.2.2.2 a (st1 (h.2.2.2 a) i.toNatClampNeg (some v)) a j).map (ad cx.1))))
          rw [z1]
          congr 2
          funext j
          rw [st1_eq]
          unfold updV st1
          by_cases hj : j = i.toNatClampNeg
          · rw [if_pos hj, if_pos hj]
            rfl
          · rw [if_neg hj, if_neg hj])
        exact Wc_same (h1 := (h.1, h.2.1, h.2.2.1, st1 h.2.2.2 a (st1 (h.2.2.2 a) i.toNatClampNeg (some v)))) rfl (kk.2 ok _ _ _ e2 hE H1 _ lsA (Rdy_put (h1 := (h.1, h.2.1, h.2.2.1, st1 h.2.2.2 a (st1 (h.2.2.2 a) i.toNatClampNeg (some v)))) hR rfl w1 z2 (ad_A ha) z3) hm hll)
      · cases e1
    · cases e1
end SNW
