/-! ===== Strings: constants alone (kind 9), and their bytes (kind 10) ===== -/
def isS (h : Hp) (a : Nat) : Prop := (kd h a).1 = 9 ∧ a = 3 + (kd h a).2 ∧ (kd h a).2 < 16
def mCkS {α : Type} (o : Option Nat) (F : Mo α) : Mo α := fun h => match o with
  | none => none
  | some a => if (kd h a).1 = 9 ∧ a = 3 + (kd h a).2 ∧ (kd h a).2 < 16 then F h else none
def mStrVal (o : Option Nat) : Mo (Option Nat) := fun h => match o with
  | none => none
  | some a => if (kd h a).1 = 9 ∧ a = 3 + (kd h a).2 ∧ (kd h a).2 < 16 then some (some (20 + (kd h a).2), h) else none
def mStrCod (o : Option Nat) : Mo Int32 := fun h => match o with
  | none => none
  | some a => if (kd h a).1 = 9 ∧ a = 3 + (kd h a).2 ∧ (kd h a).2 < 16 then some (0, h) else none
def mLenS (o : Option Nat) : Mo Int32 := fun h => match o with
  | none => none
  | some a => if (kd h a).1 = 10 ∧ a = 20 + (kd h a).2 ∧ (kd h a).2 < 16 then some (Int32.ofNat (sLn.getD (kd h a).2 0), h) else none
def mLdS (o : Option Nat) (i : Int32) : Mo Int32 := fun h => match o with
  | none => none
  | some a => if ((kd h a).1 = 10 ∧ a = 20 + (kd h a).2 ∧ (kd h a).2 < 16) ∧ ¬ (i < 0 ∨ sLn.getD (kd h a).2 0 ≤ i.toNatClampNeg) then some ((sBy.getD (kd h a).2 []).getD i.toNatClampNeg 0, h) else none
theorem ckS_inv {α : Type} {o : Option Nat} {F : Mo α} {h : Hp} {z : α × Hp} (e : mCkS o F h = some z) : ∃ a, o = some a ∧ ((kd h a).1 = 9 ∧ a = 3 + (kd h a).2 ∧ (kd h a).2 < 16) ∧ F h = some z := by
  cases o with
  | none => cases e
  | some a =>
    unfold mCkS at e
    dsimp only at e
    split at e
    · rename_i hk
      exact ⟨a, rfl, hk, e⟩
    · cases e
theorem mono_ckS {α : Type} {o : Option Nat} {F : Mo α} (m : Mono F) : Mono (mCkS o F) := fun h r h' e => by
  obtain ⟨a, -, -, e1⟩ := ckS_inv e
  exact m h r h' e1
theorem sn_ckS {α : Type} {cx : CX} {y : MD} {enc : α → Option LV} {pc : Nat} {o : Option Nat} {ls : List (Nat × LV)} {st : List LV} {F : Mo α} (k : Sn cx y enc pc ls st F) : Sn cx y enc pc ls st (mCkS o F) :=
  ⟨mono_ckS k.1, fun ok h r h' hF hE H locs lsA hR hm hl => by
    obtain ⟨_, _, _, e1⟩ := ckS_inv hF
    exact k.2 ok h r h' e1 hE H locs lsA hR hm hl⟩
section SNS
variable {α β : Type} {cx : CX} {y y2 : MD} {enc : α → Option LV} {enc2 : β → Option LV} {pc : Nat} {ls : List (Nat × LV)} {st : List LV} {F : Mo α}
theorem ad_str {g : Gl} {i : Nat} (hi : i < 16) : ad g (3 + i) = gO g (3 + i) := if_pos (by omega)
theorem ad_byt {g : Gl} {i : Nat} (hi : i < 16) : ad g (20 + i) = gO g (20 + i) := if_pos (by omega)
theorem sn_strVal {idx : Nat} (hl : Cond.fieldLink y.1 idx "java/lang/String" "value" "[B" ∈ gws) (d : decode y.2.2.1 pc = .ok (.getfield idx, 3)) {o : Option Nat} {G : Option Nat → Mo α} (kk : ∀ x, Sn cx y enc (pc + 3) ls (vA x :: st) (G x)) : Sn cx y enc pc ls (vA o :: st) (mBd (mStrVal o) G) := by
  refine ⟨fun h r h' e => ?_, fun ok h r h' hF hE H locs lsA hR hm hll => ?_⟩
  · obtain ⟨x, h1, e1, e2⟩ := bd_inv e
    cases o with
    | none => cases e1
    | some a =>
      unfold mStrVal at e1
      dsimp only at e1
      split at e1
      · cases e1; exact (kk _).1 _ _ _ e2
      · cases e1
  · obtain ⟨x, h1, e1, e2⟩ := bd_inv hF
    cases o with
    | none => cases e1
    | some a =>
      unfold mStrVal at e1
      dsimp only at e1
      split at e1
      · rename_i hc
        cases e1
        have K := (kk _).2 ok _ _ _ e2 hE H locs lsA hR hm hll
        have hS := (ok.2.2.2.2.2.2.2.2.2.2.1.2.2.2.2.1.1 _ hc.2.2).2.2.1
        have K2 : Wc cx h H locs (F0 cx.2.2.2.2.2.1 (pc + 3) lsA (.ref (gO cx.1 (20 + (kd h a).2)) :: st.map (cvv cx.1))) := by
          rw [← ad_byt hc.2.2]; exact K
        show Wc cx h H locs (F0 _ pc lsA (.ref (ad cx.1 a) :: st.map (cvv cx.1)))
        rw [show ad cx.1 a = gO cx.1 (3 + (kd h a).2) from (congrArg (ad cx.1) hc.2.1).trans (ad_str hc.2.2)]
        exact vk_getf ok.1 ok.2.1 hS hR.2.1 ok.2.2.2.1 (ok.2.2.2.2.1 _ hl) (fun _ z => z) d K2
      · cases e1
theorem sn_strCod {idx : Nat} (hl : Cond.fieldLink y.1 idx "java/lang/String" "coder" "B" ∈ gws) (d : decode y.2.2.1 pc = .ok (.getfield idx, 3)) {o : Option Nat} {G : Int32 → Mo α} (kk : ∀ x, Sn cx y enc (pc + 3) ls (vI x :: st) (G x)) : Sn cx y enc pc ls (vA o :: st) (mBd (mStrCod o) G) := by
  refine ⟨fun h r h' e => ?_, fun ok h r h' hF hE H locs lsA hR hm hll => ?_⟩
  · obtain ⟨x, h1, e1, e2⟩ := bd_inv e
    cases o with
    | none => cases e1
    | some a =>
      unfold mStrCod at e1
      dsimp only at e1
      split at e1
      · cases e1; exact (kk _).1 _ _ _ e2
      · cases e1
  · obtain ⟨x, h1, e1, e2⟩ := bd_inv hF
    cases o with
    | none => cases e1
    | some a =>
      unfold mStrCod at e1
      dsimp only at e1
      split at e1
      · rename_i hc
        cases e1
        have K := (kk _).2 ok _ _ _ e2 hE H locs lsA hR hm hll
        have hS := (ok.2.2.2.2.2.2.2.2.2.2.1.2.2.2.2.1.1 _ hc.2.2).2.1
        show Wc cx h H locs (F0 _ pc lsA (.ref (ad cx.1 a) :: st.map (cvv cx.1)))
        rw [show ad cx.1 a = gO cx.1 (3 + (kd h a).2) from (congrArg (ad cx.1) hc.2.1).trans (ad_str hc.2.2)]
        exact vk_getf ok.1 ok.2.1 hS hR.2.1 ok.2.2.2.1 (ok.2.2.2.2.1 _ hl) (fun _ z => z) d K
      · cases e1
theorem sn_alenS (d : decode y.2.2.1 pc = .ok (.arraylength, 1)) {o : Option Nat} {G : Int32 → Mo α} (kk : ∀ x, Sn cx y enc (pc + 1) ls (vI x :: st) (G x)) : Sn cx y enc pc ls (vA o :: st) (mBd (mLenS o) G) := by
  refine ⟨fun h r h' e => ?_, fun ok h r h' hF hE H locs lsA hR hm hll => ?_⟩
  · obtain ⟨x, h1, e1, e2⟩ := bd_inv e
    cases o with
    | none => cases e1
    | some a =>
      unfold mLenS at e1
      dsimp only at e1
      split at e1
      · cases e1; exact (kk _).1 _ _ _ e2
      · cases e1
  · obtain ⟨x, h1, e1, e2⟩ := bd_inv hF
    cases o with
    | none => cases e1
    | some a =>
      unfold mLenS at e1
      dsimp only at e1
      split at e1
      · rename_i hc
        cases e1
        have K := (kk _).2 ok _ _ _ e2 hE H locs lsA hR hm hll
        have hS := (ok.2.2.2.2.2.2.2.2.2.2.1.2.2.2.2.1.1 _ hc.2.2).2.2.2
        show Wc cx h H locs (F0 _ pc lsA (.ref (ad cx.1 a) :: st.map (cvv cx.1)))
        rw [show ad cx.1 a = gO cx.1 (20 + (kd h a).2) from (congrArg (ad cx.1) hc.2.1).trans (ad_byt hc.2.2)]
        exact va_tlen ok.1 ok.2.1 hS hR.2.1 rfl d K
      · cases e1
theorem sn_baloadS (d : decode y.2.2.1 pc = .ok (.baload, 1)) {o : Option Nat} {i : Int32} {G : Int32 → Mo α} (kk : ∀ x, Sn cx y enc (pc + 1) ls (vI x :: st) (G x)) : Sn cx y enc pc ls (vI i :: vA o :: st) (mBd (mLdS o i) G) := by
  refine ⟨fun h r h' e => ?_, fun ok h r h' hF hE H locs lsA hR hm hll => ?_⟩
  · obtain ⟨x, h1, e1, e2⟩ := bd_inv e
    cases o with
    | none => cases e1
    | some a =>
      unfold mLdS at e1
      dsimp only at e1
      split at e1
      · cases e1; exact (kk _).1 _ _ _ e2
      · cases e1
  · obtain ⟨x, h1, e1, e2⟩ := bd_inv hF
    cases o with
    | none => cases e1
    | some a =>
      unfold mLdS at e1
      dsimp only at e1
      split at e1
      · rename_i hc
        cases e1
        have K := (kk _).2 ok _ _ _ e2 hE H locs lsA hR hm hll
        have hS := (ok.2.2.2.2.2.2.2.2.2.2.1.2.2.2.2.1.1 _ hc.1.2.2).2.2.2
        show Wc cx h H locs (F0 _ pc lsA (.int i :: .ref (ad cx.1 a) :: st.map (cvv cx.1)))
        rw [show ad cx.1 a = gO cx.1 (20 + (kd h a).2) from (congrArg (ad cx.1) hc.1.2.1).trans (ad_byt hc.1.2.2)]
        exact va_tb ok.1 ok.2.1 hS hR.2.1 hc.2 rfl d K
      · cases e1
theorem sn_compact {idx : Nat} (hl : Cond.fieldLink y.1 idx "java/lang/String" "COMPACT_STRINGS" "Z" ∈ gws) (d : decode y.2.2.1 pc = .ok (.getstatic idx, 3)) (k : Sn cx y enc (pc + 3) ls (vI 1 :: st) F) : Sn cx y enc pc ls st F :=
  ⟨k.1, fun ok h r h' hF hE H locs lsA hR hm hll => va_gets (A := gA cx.1) ok.1 ok.2.1 ok.2.2.2.2.2.2.2.2.2.2.1.2.2.2.2.2.1 hR.2.1 ok.2.2.2.1 (ok.2.2.2.2.1 _ hl) (fun _ z => z) d (k.2 ok h r h' hF hE H locs lsA hR hm hll)⟩
/-- the formatter is loaded and not used: what follows may not say of it more than that it is there -/
theorem sn_fmt {idx : Nat} (hl : Cond.fieldLink y.1 idx "jdk/internal/util/Preconditions" "SIOOBE_FORMATTER" "Ljava/util/function/BiFunction;" ∈ gws) (d : decode y.2.2.1 pc = .ok (.getstatic idx, 3)) (k : Sn cx y enc (pc + 3) ls (vA (gF cx.1) :: st) F) : Sn cx y enc pc ls st F :=
  ⟨k.1, fun ok h r h' hF hE H locs lsA hR hm hll => va_gets (A := gA cx.1) ok.1 ok.2.1 ok.2.2.2.2.2.2.2.2.2.2.1.2.2.2.2.2.2.1 hR.2.1 ok.2.2.2.1 (ok.2.2.2.2.1 _ hl) (fun _ z => z) d (k.2 ok h r h' hF hE H locs lsA hR hm hll)⟩
theorem sn_invStr {idx n : Nat} (d : decode y.2.2.1 pc = .ok (.invokevirtual idx, 3)) (hl : LKm y.1 idx y2 n) (hi : Cond.instanceMethod y2.2.1 ∈ gws) (hse : Cond.selects "java/lang/String" y2.2.1 y2.2.1 ∈ gws) (hC : y2.2.1.cls = "java/lang/String") {av stk : List LV} {o : Option Nat} (hn : av.length = n) (hstk : stk = av.reverse ++ vA o :: st) (hrest : Nat.ble ((st.map lvsz).sum) 8 = true) (hroom : y2.2.2.2.2.2.1 + 1 ≤ y.2.2.2.2.2.1 ∧ 8 + (y2.2.2.2.1 + 11) + y2.2.2.2.2.2.2 ≤ y.2.2.2.2.2.2) {F1 : Mo β} {G : β → Mo α} (hc : Cn cx.1 y2 enc2 (vA o :: av) (mCkS o F1)) (kk : ∀ r, Sn cx y enc (pc + 3) ls ((enc2 r).toList ++ st) (G r)) : Sn cx y enc pc ls stk (mBd (mCkS o F1) G) := by
  subst hstk
  have m1 := hc.1 cx
  refine ⟨mono_inv m1 kk, fun ok h r h' hF hE H locs lsA hR hm hll => ?_⟩
  obtain ⟨x, h1, e1, e2⟩ := bd_inv hF
  obtain ⟨b, hb, hkb, -⟩ := ckS_inv e1
  subst hb
  obtain ⟨l1, l2, l3, l4, l5, l6⟩ := hl
  rw [stack_eq]
  have had : ad cx.1 b = gO cx.1 (3 + (kd h b).2) := (congrArg (ad cx.1) hkb.2.1).trans (ad_str hkb.2.2)
  refine sn_after m1 kk ok e1 e2 hE hR hm hll (va_runV (n := n) (C := "java/lang/String") (b := ad cx.1 b) (As := av.map (cvv cx.1)) ⟨ok.1, ok.2.1, ok.2.2.1, ok.2.2.2.1, ok.2.2.2.2.1⟩ (hc.2 h x h1 e1)
    (cwV n ok.2.2.2.2.1 (fun w hw => ?_) rfl rfl rfl ⟨hC, l4, l5, l6⟩ ⟨?_, ?_⟩) ⟨wd_blind _ _ _, by rw [had]; exact vk_recv (adK := fun i => gO cx.1 (3 + i)) (i := (kd h b).2) ok.2.2.2.2.2.2.2.2.2.2.1.2.2.2.2.1 hkb.2.2 hR.2.1, fun U hU hW => ⟨rfl, wd_now ok hR U hU hW⟩⟩ rfl (by rw [List.length_map]; exact hn) hll.1 rfl (rest_room rfl hrest) d (room_call m1 kk e1 e2 hR hm))
  · rcases List.mem_append.mp hw with z | z
    · simp only [List.mem_cons, List.not_mem_nil, or_false] at z
      rcases z with z | z | z | z
      · rw [z]; exact good_gws _ l1
      · rw [z]; exact good_gws _ hi
      · rw [z]; exact good_gws _ hse
      · rw [z, ← hC]; exact good_gws _ l2
    · exact good_wsy l3 w z
  · exact Nat.le_trans hroom.1 ok.2.2.2.2.2.2.2.1
  · exact Nat.le_trans hroom.2 ok.2.2.2.2.2.2.2.2.1
end SNS
