/-! ===== reading an abstract heap's cells ===== -/
def tg (t : FieldType) : Nat := match t with
  | .int => 0
  | .long => 1
  | .object _ => 2
  | .array _ => 2
  | .boolean => 3
  | _ => 9
/-- what a class's tables say: its place among the classes, its fields' words, their types and names -/
def CA (c : Nat) (C : String) (T : u_T) (N : Nat) (ty : Nat → FieldType) : Prop := vwCl[c]? = some (C, T, N) ∧ cN c = N ∧ (∀ w ∈ u_ws C T N, w ∈ gws) ∧ (∀ k, k < N → parseFieldDescriptor (T k).2.2.1 = some (ty k)) ∧ (∀ k, k < N → tg (ty k) = (fT c).getD k 0 ∧ tg (ty k) < 4) ∧ (∀ a, a < N → ∀ b, b < N → a ≠ b → (T a).2.1 ≠ (T b).2.1) ∧ ∀ k, k < N → (T k).1 = C
theorem kd_get {h : Hp} {a : Nat} {q : Nat × Nat} (e : kd h a = q) (hq : q.1 ≠ 99) : h.1[a]? = some q := by
  unfold kd at e
  cases hh : h.1[a]? with
  | none => rw [hh] at e; subst e; exact absurd rfl hq
  | some z => rw [hh] at e; rw [show z = q from e]
theorem kd_of {h : Hp} {a : Nat} {q : Nat × Nat} (e : h.1[a]? = some q) : kd h a = q := by
  unfold kd
  rw [e]
  rfl
theorem wr_old {g : Gl} (hg : gok g) {h : Hp} {H : Heap} (w : wr g h H) {a : Nat} (ha : a < 64) : h.1[a]? = (gK g)[a]? := by
  obtain ⟨⟨r, e⟩, -⟩ := w
  rw [e, List.getElem?_append_left (by rw [hg.1]; exact ha)]
theorem wr_new {g : Gl} (hg : gok g) {h : Hp} {H : Heap} (w : wr g h H) {a : Nat} {q : Nat × Nat} (e : h.1[a]? = some q) (h1 : ¬ q.1 = 1) (h2 : q.1 < 9) : 64 ≤ a := by
  refine Nat.le_of_not_lt fun ha => ?_
  rw [wr_old hg w ha] at e
  rcases hg.2 a q e with z | z
  · exact h1 z
  · omega
theorem wr_at {g : Gl} {h : Hp} {H : Heap} (w : wr g h H) {a : Nat} {q : Nat × Nat} (ha : 64 ≤ a) (e : h.1[a]? = some q) (hq : q.1 < 8) : va_at (gD g) vwCl (ad g a, tcell g h a q) H := w.2.2.2.2 a q ha e hq
theorem fl_get {g : Gl} {h : Hp} {a c k : Nat} (hk : k < cN c) : (fl g h a c)[k]? = some (fv g h a c k) := by
  unfold fl
  rw [List.getElem?_map, List.getElem?_range hk]
  rfl
theorem fl_len {g : Gl} {h : Hp} {a c : Nat} : (fl g h a c).length = cN c := by
  unfold fl
  rw [List.length_map, List.length_range]
theorem fl_V {g : Gl} {h : Hp} {a c k : Nat} (hk : k < cN c) : vp_V (fl g h a c) k = fv g h a c k := by
  unfold vp_V
  rw [List.getD_eq_getElem?_getD, fl_get hk]
  rfl
theorem ad_new {g : Gl} {a : Nat} (ha : 64 ≤ a) : ad g a = gB g + (a - 64) := if_neg (by omega)
theorem ad_A {g : Gl} {a : Nat} (ha : 64 ≤ a) : gA g (ad g a) := by
  rw [ad_new ha]
  exact Nat.le_add_right _ _
theorem ad_inj {g : Gl} {a b : Nat} (ha : 64 ≤ a) (hb : 64 ≤ b) (e : ad g a = ad g b) : a = b := by
  rw [ad_new ha, ad_new hb] at e
  omega
/-! ===== fields ===== -/
def LK (own : String) (idx : Nat) (T : u_T) (k : Nat) : Prop := Cond.fieldLink own idx (T k).1 (T k).2.1 (T k).2.2.1 ∈ gws ∨ ∃ host, (own, idx, (T k).1, (T k).2.1, (T k).2.2.1, host) ∈ nwF
section SNF
variable {α : Type} {cx : CX} {y : MD} {enc : α → Option LV} {pc : Nat} {ls : List (Nat × LV)} {st : List LV} {F : Mo α} {c k N idx : Nat} {C : String} {T : u_T} {ty : Nat → FieldType}
theorem ts_obj (hca : CA c C T N ty) {g : Gl} (hg : gok g) {h : Hp} {H : Heap} (w : wr g h H) {a : Nat} (e : kd h a = (0, c)) : 64 ≤ a ∧ va_at (gD g) vwCl (ad g a, .inr (c, fl g h a c)) H := by
  have e1 := kd_get e (show 0 ≠ 99 by decide)
  have ha := wr_new hg w e1 (show ¬ 0 = 1 by decide) (show 0 < 9 by decide)
  exact ⟨ha, wr_at w ha e1 (by show 0 < 8; decide)⟩
theorem ts_get (hca : CA c C T N ty) (hk : k < N) (hl : LK y.1 idx T k) (d : decode y.2.2.1 pc = .ok (.getfield idx, 3)) (ok : Okc cx y) {h : Hp} {H : Heap} {locs : List Loc} (hR : Rdy cx h H locs) {a : Nat} (e : kd h a = (0, c)) {lsA : Array Slot} {rest : List Value}
    (kk : Wc cx h H locs (F0 cx.2.2.2.2.2.1 (pc + 3) lsA (fv cx.1 h a c k :: rest))) : Wc cx h H locs (F0 cx.2.2.2.2.2.1 pc lsA (.ref (ad cx.1 a) :: rest)) := by
  obtain ⟨ha, hat⟩ := ts_obj hca ok.2.2.2.2.2.2.2.2.2.2.2.1 hR.1 e
  have hP : va_P (gD cx.1) vwCl [(ad cx.1 a, .inr (c, fl cx.1 h a c))] H := by
    intro j q hq
    cases j with
    | zero => cases hq; exact hat
    | succ j => cases hq
  have hv : (fl cx.1 h a c)[k]? = some (fv cx.1 h a c k) := fl_get (by rw [hca.2.1]; exact hk)
  rcases hl with hl | ⟨host, hl⟩
  · exact va_get (ref := (T k).1) ok.1 ok.2.1 ok.2.2.2.2.1 hca.2.2.1 ok.2.2.2.1 ok.2.2.2.2.2.2.2.2.2.2.1.1 hP 0 rfl hca.1 k hk (ok.2.2.2.2.1 _ hl) (fun _ z => z) hv d kk
  · exact va_getN (ref := (T k).1) ok.1 ok.2.1 ok.2.2.2.2.1 hca.2.2.1 ok.2.2.2.1 ok.2.2.2.2.2.2.2.2.2.2.1.1 hP 0 rfl hca.1 k hk (va_Nw.use rfl (ok.2.2.2.2.2.2.2.2.2.2.1.2.1.2.1 _ _ _ _ _ _ hl)) (fun _ z => z) hv d kk
theorem sn_getI (hca : CA c C T N ty) (hk : Nat.ble (k + 1) N = true) (hl : LK y.1 idx T k) (hv : ∀ g h a, fv g h a c k = .int (h.2.1 a k)) (d : decode y.2.2.1 pc = .ok (.getfield idx, 3)) {o : Option Nat} {G : Int32 → Mo α} (kk : ∀ x, Sn cx y enc (pc + 3) ls (vI x :: st) (G x)) : Sn cx y enc pc ls (vA o :: st) (mBd (mGetI c k o) G) := by
  refine ⟨fun h r h' e => ?_, fun ok h r h' hF hE H locs lsA hR hm hll => ?_⟩
  · obtain ⟨x, h1, e1, e2⟩ := bd_inv e
    cases o with
    | none => cases e1
    | some a =>
      unfold mGetI at e1
      dsimp only at e1
      split at e1
      · cases e1; exact (kk _).1 _ _ _ e2
      · cases e1
  · obtain ⟨x, h1, e1, e2⟩ := bd_inv hF
    cases o with
    | none => cases e1
    | some a =>
      unfold mGetI at e1
      dsimp only at e1
      split at e1
      · rename_i hkd
        cases e1
        exact ts_get hca (Nat.le_of_ble_eq_true hk) hl d ok hR hkd (by rw [hv]; exact (kk _).2 ok _ _ _ e2 hE H locs lsA hR hm hll)
      · cases e1
theorem sn_getJ (hca : CA c C T N ty) (hk : Nat.ble (k + 1) N = true) (hl : LK y.1 idx T k) (hv : ∀ g h a, fv g h a c k = .long (h.2.2.1 a k)) (d : decode y.2.2.1 pc = .ok (.getfield idx, 3)) {o : Option Nat} {G : Int64 → Mo α} (kk : ∀ x, Sn cx y enc (pc + 3) ls (vJ x :: st) (G x)) : Sn cx y enc pc ls (vA o :: st) (mBd (mGetJ c k o) G) := by
  refine ⟨fun h r h' e => ?_, fun ok h r h' hF hE H locs lsA hR hm hll => ?_⟩
  · obtain ⟨x, h1, e1, e2⟩ := bd_inv e
    cases o with
    | none => cases e1
    | some a =>
      unfold mGetJ at e1
      dsimp only at e1
      split at e1
      · cases e1; exact (kk _).1 _ _ _ e2
      · cases e1
  · obtain ⟨x, h1, e1, e2⟩ := bd_inv hF
    cases o with
    | none => cases e1
    | some a =>
      unfold mGetJ at e1
      dsimp only at e1
      split at e1
      · rename_i hkd
        cases e1
        exact ts_get hca (Nat.le_of_ble_eq_true hk) hl d ok hR hkd (by rw [hv]; exact (kk _).2 ok _ _ _ e2 hE H locs lsA hR hm hll)
      · cases e1
theorem sn_getA (hca : CA c C T N ty) (hk : Nat.ble (k + 1) N = true) (hl : LK y.1 idx T k) (hv : ∀ g h a, fv g h a c k = va_rf ((h.2.2.2 a k).map (ad g))) (d : decode y.2.2.1 pc = .ok (.getfield idx, 3)) {o : Option Nat} {G : Option Nat → Mo α} (kk : ∀ x, Sn cx y enc (pc + 3) ls (vA x :: st) (G x)) : Sn cx y enc pc ls (vA o :: st) (mBd (mGetA c k o) G) := by
  refine ⟨fun h r h' e => ?_, fun ok h r h' hF hE H locs lsA hR hm hll => ?_⟩
  · obtain ⟨x, h1, e1, e2⟩ := bd_inv e
    cases o with
    | none => cases e1
    | some a =>
      unfold mGetA at e1
      dsimp only at e1
      split at e1
      · cases e1; exact (kk _).1 _ _ _ e2
      · cases e1
  · obtain ⟨x, h1, e1, e2⟩ := bd_inv hF
    cases o with
    | none => cases e1
    | some a =>
      unfold mGetA at e1
      dsimp only at e1
      split at e1
      · rename_i hkd
        cases e1
        exact ts_get hca (Nat.le_of_ble_eq_true hk) hl d ok hR hkd (by rw [hv]; exact (kk _).2 ok _ _ _ e2 hE H locs lsA hR hm hll)
      · cases e1
/-- a field of an object has changed: what the abstract heap says then -/
theorem wr_put {g : Gl} {h h1 : Hp} {H H1 : Heap} (w : wr g h H) {a : Nat} {q : Nat × Nat} (ha : 64 ≤ a) (e : h.1[a]? = some q) (hK : h1.1 = h.1) (hI : ∀ b, b ≠ a → h1.2.1 b = h.2.1 b) (hJ : ∀ b, b ≠ a → h1.2.2.1 b = h.2.2.1 b) (hA : ∀ b, b ≠ a → h1.2.2.2 b = h.2.2.2 b)
    (hz : H1.size = H.size) (hq : ∀ z, z ≠ ad g a → H1[z]? = H[z]?) (hat : va_at (gD g) vwCl (ad g a, tcell g h1 a q) H1) : wr g h1 H1 := by
  obtain ⟨w1, w2, w3, w4, w5⟩ := w
  refine ⟨by rw [hK]; exact w1, fun b hb => by rw [hI b (by omega)]; exact w2 b hb, by rw [hK]; exact w3, by rw [hK, hz]; exact w4, fun b q' hb e' h8 => ?_⟩
  rw [hK] at e'
  by_cases hba : b = a
  · subst hba
    rw [e] at e'
    cases e'
    exact hat
  · have hne : ad g b ≠ ad g a := fun z => hba (ad_inj hb ha z)
    have hz1 := (w5 b q' hb e' h8).kept (hq (ad g b) hne)
    have ht : tcell g h1 b q' = tcell g h b q' := by
      unfold tcell fl fv
      rw [hI b hba, hJ b hba, hA b hba]
    rw [ht]
    exact hz1
theorem Rdy_put {h h1 : Hp} {H H1 : Heap} {locs : List Loc} (hR : Rdy cx h H locs) (hK : h1.1 = h.1) (w1 : wr cx.1 h1 H1) (hz : H1.size = H.size) {a j : Nat} (ha : gA cx.1 a) (hq : ∀ z, z ≠ a → H1[z]? = H[z]?) : Rdy cx h1 H1 (locs ++ [⟨a, j⟩]) := by
  obtain ⟨r1, r2, r3, r4⟩ := hR
  refine ⟨w1, r2.put hz hq ha, by rw [hK]; exact r3, ?_⟩
  rw [show hsz h1 = hsz h by unfold hsz; rw [hK]]
  exact r4
theorem Wc_same {h h1 : Hp} (hK : h1.1 = h.1) {H : Heap} {locs : List Loc} {f : JFrame} (hw : Wc cx h1 H locs f) : Wc cx h H locs f := by
  unfold Wc at hw ⊢
  rw [show hsz h1 = hsz h by unfold hsz; rw [hK], hK] at hw
  exact hw
theorem fl_put {g : Gl} {h h1 : Hp} {a c k : Nat} {v : Value} (hk : k < cN c) (hv : fv g h1 a c k = v) (ho : ∀ j, j ≠ k → fv g h1 a c j = fv g h a c j) : ∀ j, j < cN c → updV (vp_V (fl g h a c)) k v j = vp_V (fl g h1 a c) j := by
  intro j hj
  rw [fl_V hj]
  unfold updV
  by_cases hjk : j = k
  · rw [if_pos hjk, hjk, hv]
  · rw [if_neg hjk, fl_V hj, ho j hjk]
theorem ts_put (hca : CA c C T N ty) (hk : k < N) (hl : LK y.1 idx T k) (hfin : (T k).2.2.2 = false ∨ ((T k).2.2.2 = true ∧ y.2.1.name = "<init>" ∧ C = y.1 ∧ Cond.fieldLink y.1 idx (T k).1 (T k).2.1 (T k).2.2.1 ∈ gws)) (d : decode y.2.2.1 pc = .ok (.putfield idx, 3)) (ok : Okc cx y) {h h1 : Hp} {H : Heap} {locs : List Loc} (hR : Rdy cx h H locs) {a : Nat} (e : kd h a = (0, c)) {v : Value} (hn : narrow (ty k) v = v) (hf : fits (ty k) v = true)
    (hK : h1.1 = h.1) (hI : ∀ b, b ≠ a → h1.2.1 b = h.2.1 b) (hJ : ∀ b, b ≠ a → h1.2.2.1 b = h.2.2.1 b) (hA : ∀ b, b ≠ a → h1.2.2.2 b = h.2.2.2 b) (hv : fv cx.1 h1 a c k = v) (ho : ∀ j, j ≠ k → fv cx.1 h1 a c j = fv cx.1 h a c j) {lsA : Array Slot} {rest : List Value}
    (kk : ∀ H1 locs1, Rdy cx h1 H1 locs1 → Wc cx h1 H1 locs1 (F0 cx.2.2.2.2.2.1 (pc + 3) lsA rest)) : Wc cx h H locs (F0 cx.2.2.2.2.2.1 pc lsA (v :: .ref (ad cx.1 a) :: rest)) := by
  obtain ⟨ha, hat⟩ := ts_obj hca ok.2.2.2.2.2.2.2.2.2.2.2.1 hR.1 e
  obtain ⟨hx, hb, hml, hown, hts, hlk, hret, hfr, hlo, hnm, hst, hg, hB⟩ := ok
  have hKK := hst.1
  have hap := va_apart (own := y.1) hts hca.2.2.1 ty hca.2.2.2.1 hca.2.2.2.2.2.1 hKK hca.1
  have hat0 := hat
  obtain ⟨r, g1, cell, q1, q2, q3, q4⟩ := hat
  have hr : r = (C, T, N) := Option.some.inj (g1.symm.trans hca.1)
  subst hr
  obtain ⟨hS, hfc, kC, hkC, hkind⟩ := hKK.1 c _ hca.1
  obtain ⟨cf, kf, fi, f, hi, hsl⟩ := hS k hk
  have hlays := u_lays hts hca.2.2.1 hk
  have hst1 := (u_facts hfc hkC hlays hi).1
  have hkc : k < cN c := by rw [hca.2.1]; exact hk
  have goal : ∀ H' : Heap, H'[ad cx.1 a]? = some (cell.setSlot f.slot v) → H'.size = H.size → (∀ q, q ≠ ad cx.1 a → H'[q]? = H[q]?) → Wc cx h H' (locs ++ [⟨ad cx.1 a, f.slot⟩]) (F0 cx.2.2.2.2.2.1 (pc + 3) lsA rest) := by
    intro H' e1 e2 e3
    rw [hsl] at e1
    have hat1 : va_at (gD cx.1) vwCl (ad cx.1 a, .inr (c, fl cx.1 h1 a c)) H' :=
      ⟨_, hca.1, t_OB.to (V := updV (vp_V (fl cx.1 h a c)) k v) ⟨_, e1, q2, q3, t_set q4 hap hk v⟩ (fun j hj => fl_put hkc hv ho j (by rw [hca.2.1]; exact hj))⟩
    have w1 : wr cx.1 h1 H' := wr_put hR.1 ha (kd_get e (show 0 ≠ 99 by decide)) hK hI hJ hA e2 e3 hat1
    exact Wc_same hK (kk H' _ (Rdy_put hR hK w1 e2 (ad_A ha) e3))
  rcases hfin with hfin | ⟨hfin, hin2, hdecl, hlf⟩
  · have hlay := hts _ (hca.2.2.1 _ (u_in_lay hk))
    unfold u_lay at hlay
    rw [if_neg (by rw [hfin]; decide)] at hlay
    have h6 := u_store hfc hkC hkind hlay hi (hca.2.2.2.1 k hk) hn hf
    rcases hl with hl | ⟨host, hl⟩
    · exact W.putK hx hb (f := f) ⟨hown, hts _ hl, ⟨_, _, _, hi⟩, hst1⟩ (by rw [q2]; exact h6) q1 q3 (by rw [hsl]; exact k2_hasslot (q4 k hk)) rfl rfl d goal
    · exact va_WputK hx hb (f := f) hown (va_Nw.use rfl (hst.2.1.2.1 _ _ _ _ _ _ hl)) hi hst1 (by rw [q2]; exact h6) q1 q3 (by rw [hsl]; exact k2_hasslot (q4 k hk)) rfl rfl d goal
  · have hlay := hts _ (hca.2.2.1 _ (u_in_lay hk))
    unfold u_lay at hlay
    rw [if_pos hfin] at hlay
    have hcf : cx.2.2.2.2.2.1.cls = cf := by
      obtain ⟨_, _, c', _, _, _, -, -, hf', -, -, -, hown2, -⟩ := Cond.laysFinal_spec hlay
      have e1 : c' = cf := by have := hi.symm.trans hf'; simp at this; exact this.1.symm
      rw [hca.2.2.2.2.2.2 k hk, hdecl] at hown2
      rw [← e1]; exact Option.some.inj (hown.symm.trans hown2)
    have h6 := u_fits hfc hkC hkind (Or.inr hlay) hi (hca.2.2.2.1 k hk) hn hf
    exact W.putFinK hx hb hown (hts _ hlf) hi hst1 hcf (hnm hin2) (by rw [q2]; exact h6) q1 q3 (by rw [hsl]; exact k2_hasslot (q4 k hk)) rfl rfl d goal
end SNF
