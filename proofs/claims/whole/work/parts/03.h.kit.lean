/-! ===== answers, constants, calls, loops ===== -/
section SNR
variable {α β : Type} {cx : CX} {y : MD} {enc : α → Option LV} {pc : Nat} {ls : List (Nat × LV)} {st : List LV} {F : Mo α}
theorem mRq_t {c : Prop} [Decidable c] {F : Mo α} (hc : c) : mRq c F = F := if_pos hc
theorem mRq_f {c : Prop} [Decidable c] {F : Mo α} (hc : ¬ c) : mRq c F = mBad := if_neg hc
theorem mono_rq {c : Prop} [Decidable c] {F : Mo α} (m : Mono F) : Mono (mRq c F) := by
  by_cases hc : c
  · rw [mRq_t hc]; exact m
  · rw [mRq_f hc]; exact mono_bad
theorem sn_bad : Sn cx y enc pc ls st (mBad : Mo α) := ⟨mono_bad, fun _ _ _ _ e => by cases e⟩
theorem sn_ireturn {x : Int32} (hr : y.2.2.2.2.1 = some .int) (d : decode y.2.2.1 pc = .ok (.ireturn, 1)) : Sn cx y eI pc ls [vI x] (mRt x) :=
  ⟨mono_rt x, fun _ h r h' hF hE H locs lsA hR _ _ => by
    cases hF
    exact hE pc H locs lsA (by rw [hr]; exact d) (fun ty v h1 h2 => by rw [hr] at h1; cases h1; cases h2; rfl) hR⟩
theorem sn_zreturn {x : Int32} (hr : y.2.2.2.2.1 = some .boolean) (d : decode y.2.2.1 pc = .ok (.ireturn, 1)) : Sn cx y eI pc ls [vI x] (mRq (x = 0 ∨ x = 1) (mRt x)) :=
  ⟨mono_rq (mono_rt x), fun _ h r h' hF hE H locs lsA hR _ _ => by
    by_cases hx : x = 0 ∨ x = 1
    · rw [mRq_t hx] at hF
      cases hF
      exact hE pc H locs lsA (by rw [hr]; exact d) (fun ty v h1 h2 => by
        rw [hr] at h1
        cases h1
        cases h2
        rcases hx with q | q <;> (subst q; rfl)) hR
    · rw [mRq_f hx] at hF; cases hF⟩
theorem sn_breturn {x : Int32} (hr : y.2.2.2.2.1 = some .byte) (d : decode y.2.2.1 pc = .ok (.ireturn, 1)) : Sn cx y eI pc ls [vI x] (mRq (x = 0 ∨ x = 1) (mRt x)) :=
  ⟨mono_rq (mono_rt x), fun _ h r h' hF hE H locs lsA hR _ _ => by
    by_cases hx : x = 0 ∨ x = 1
    · rw [mRq_t hx] at hF
      cases hF
      exact hE pc H locs lsA (by rw [hr]; exact d) (fun ty v h1 h2 => by
        rw [hr] at h1
        cases h1
        cases h2
        rcases hx with q | q <;> (subst q; rfl)) hR
    · rw [mRq_f hx] at hF; cases hF⟩
theorem sn_creturn {x : Int32} (hr : y.2.2.2.2.1 = some .char) (d : decode y.2.2.1 pc = .ok (.ireturn, 1)) : Sn cx y eI pc ls [vI x] (mRq (x.toUInt32.toUInt16.toUInt32.toInt32 = x) (mRt x)) :=
  ⟨mono_rq (mono_rt x), fun _ h r h' hF hE H locs lsA hR _ _ => by
    by_cases hx : x.toUInt32.toUInt16.toUInt32.toInt32 = x
    · rw [mRq_t hx] at hF
      cases hF
      exact hE pc H locs lsA (by rw [hr]; exact d) (fun ty v h1 h2 => by
        rw [hr] at h1
        cases h1
        cases h2
        exact congrArg Value.int hx) hR
    · rw [mRq_f hx] at hF; cases hF⟩
theorem sn_lreturn {x : Int64} (hr : y.2.2.2.2.1 = some .long) (d : decode y.2.2.1 pc = .ok (.lreturn, 1)) : Sn cx y eJ pc ls [vJ x] (mRt x) :=
  ⟨mono_rt x, fun _ h r h' hF hE H locs lsA hR _ _ => by
    cases hF
    exact hE pc H locs lsA (by rw [hr]; exact d) (fun ty v h1 h2 => by rw [hr] at h1; cases h1; cases h2; rfl) hR⟩
theorem sn_areturn {x : Option Nat} (hr : (∃ n, y.2.2.2.2.1 = some (.object n)) ∨ ∃ t, y.2.2.2.2.1 = some (.array t)) (d : decode y.2.2.1 pc = .ok (.areturn, 1)) : Sn cx y eA pc ls [vA x] (mRt x) :=
  ⟨mono_rt x, fun _ h r h' hF hE H locs lsA hR _ _ => by
    cases hF
    rcases hr with ⟨n, hr⟩ | ⟨n, hr⟩
    · exact hE pc H locs lsA (by rw [hr]; exact d) (fun ty v h1 h2 => by rw [hr] at h1; cases h1; cases h2; exact (tg_ref rfl _).1) hR
    · exact hE pc H locs lsA (by rw [hr]; exact d) (fun ty v h1 h2 => by rw [hr] at h1; cases h1; cases h2; exact (tg_ref rfl _).1) hR⟩
theorem sn_return (hr : y.2.2.2.2.1 = none) (d : decode y.2.2.1 pc = .ok (.return_, 1)) : Sn cx y eV pc ls [] (mRt ()) :=
  ⟨mono_rt (), fun _ h r h' hF hE H locs lsA hR _ _ => by
    cases hF
    exact hE pc H locs lsA (by rw [hr]; exact d) (fun ty v h1 _ => by rw [hr] at h1; cases h1) hR⟩
theorem sn_lengths {idx : Nat} (hl : Cond.fieldLink y.1 idx "TurningSums$Ring" "LENGTHS" "[I" ∈ gws) (d : decode y.2.2.1 pc = .ok (.getstatic idx, 3)) (k : Sn cx y enc (pc + 3) ls (vA (some 0) :: st) F) : Sn cx y enc pc ls st F :=
  ⟨k.1, fun ok h r h' hF hE H locs lsA hR hm hll => va_gets (A := gA cx.1) ok.1 ok.2.1 ok.2.2.2.2.2.2.2.2.2.2.1.2.2.1 hR.2.1 ok.2.2.2.1 (ok.2.2.2.2.1 _ hl) (fun _ z => z) d (k.2 ok h r h' hF hE H locs lsA hR hm hll)⟩
theorem sn_least {idx : Nat} (hl : Cond.fieldLink y.1 idx "TurningSums$Ring" "LEAST" "[I" ∈ gws) (d : decode y.2.2.1 pc = .ok (.getstatic idx, 3)) (k : Sn cx y enc (pc + 3) ls (vA (some 1) :: st) F) : Sn cx y enc pc ls st F :=
  ⟨k.1, fun ok h r h' hF hE H locs lsA hR hm hll => va_gets (A := gA cx.1) ok.1 ok.2.1 ok.2.2.2.2.2.2.2.2.2.2.1.2.2.2.1 hR.2.1 ok.2.2.2.1 (ok.2.2.2.2.1 _ hl) (fun _ z => z) d (k.2 ok h r h' hF hE H locs lsA hR hm hll)⟩
theorem sn_ldcI {idx : Nat} {v : Int32} (hl : Cond.constant y.1 idx v ∈ gws) (d : decode y.2.2.1 pc = .ok (.ldc idx, 2)) (k : Sn cx y enc (pc + 2) ls (vI v :: st) F) : Sn cx y enc pc ls st F :=
  ⟨k.1, fun ok h r h' hF hE H locs lsA hR hm hll => lv_ldc ok.1 ok.2.1 ok.2.2.2.1 (ok.2.2.2.2.1 _ hl) d (k.2 ok h r h' hF hE H locs lsA hR hm hll)⟩
theorem sn_ldcW {idx : Nat} {v : Int32} (hl : Cond.constant y.1 idx v ∈ gws) (d : decode y.2.2.1 pc = .ok (.ldc_w idx, 3)) (k : Sn cx y enc (pc + 3) ls (vI v :: st) F) : Sn cx y enc pc ls st F :=
  ⟨k.1, fun ok h r h' hF hE H locs lsA hR hm hll => lv_ldcw ok.1 ok.2.1 ok.2.2.2.1 (ok.2.2.2.2.1 _ hl) d (k.2 ok h r h' hF hE H locs lsA hR hm hll)⟩
theorem sn_ldcJ {idx : Nat} {v : Int64} (hl : Cond.constantLong y.1 idx v ∈ gws) (d : decode y.2.2.1 pc = .ok (.ldc2_w idx, 3)) (k : Sn cx y enc (pc + 3) ls (vJ v :: st) F) : Sn cx y enc pc ls st F :=
  ⟨k.1, fun ok h r h' hF hE H locs lsA hR hm hll => lv_ldc2 ok.1 ok.2.1 ok.2.2.2.1 (ok.2.2.2.2.1 _ hl) d (k.2 ok h r h' hF hE H locs lsA hR hm hll)⟩
/-! loops -/
theorem sn_lq0 {b : Mo α → Mo α} (hb : ∀ k : Mo α, Sn cx y enc pc ls st k → Sn cx y enc pc ls st (b k)) : ∀ n, Sn cx y enc pc ls st (lq0 b n)
  | 0 => sn_bad
  | n + 1 => hb _ (sn_lq0 hb n)
theorem sn_lq1 {σ : Type} {b : (σ → Mo α) → σ → Mo α} {L : σ → List (Nat × LV)} (hb : ∀ k : σ → Mo α, (∀ x, Sn cx y enc pc (L x) st (k x)) → ∀ x, Sn cx y enc pc (L x) st (b k x)) : ∀ n x, Sn cx y enc pc (L x) st (lq1 b n x)
  | 0, _ => sn_bad
  | n + 1, x => hb _ (sn_lq1 hb n) x
theorem sn_lq2 {σ τ : Type} {b : (σ → τ → Mo α) → σ → τ → Mo α} {L : σ → τ → List (Nat × LV)} (hb : ∀ k : σ → τ → Mo α, (∀ x z, Sn cx y enc pc (L x z) st (k x z)) → ∀ x z, Sn cx y enc pc (L x z) st (b k x z)) : ∀ n x z, Sn cx y enc pc (L x z) st (lq2 b n x z)
  | 0, _, _ => sn_bad
  | n + 1, x, z => hb _ (sn_lq2 hb n) x z
theorem sn_lq3 {σ τ υ : Type} {b : (σ → τ → υ → Mo α) → σ → τ → υ → Mo α} {L : σ → τ → υ → List (Nat × LV)} (hb : ∀ k : σ → τ → υ → Mo α, (∀ x z w, Sn cx y enc pc (L x z w) st (k x z w)) → ∀ x z w, Sn cx y enc pc (L x z w) st (b k x z w)) : ∀ n x z w, Sn cx y enc pc (L x z w) st (lq3 b n x z w)
  | 0, _, _, _ => sn_bad
  | n + 1, x, z, w => hb _ (sn_lq3 hb n) x z w
theorem sn_lq4 {σ τ υ φ : Type} {b : (σ → τ → υ → φ → Mo α) → σ → τ → υ → φ → Mo α} {L : σ → τ → υ → φ → List (Nat × LV)} (hb : ∀ k : σ → τ → υ → φ → Mo α, (∀ x z w v, Sn cx y enc pc (L x z w v) st (k x z w v)) → ∀ x z w v, Sn cx y enc pc (L x z w v) st (b k x z w v)) : ∀ n x z w v, Sn cx y enc pc (L x z w v) st (lq4 b n x z w v)
  | 0, _, _, _, _ => sn_bad
  | n + 1, x, z, w, v => hb _ (sn_lq4 hb n) x z w v
/-! a method's contract -/
def Wd (g : Gl) (h : Hp) (U : State) : Prop := stw g U U.heap ∧ gok g ∧ gB g ≤ U.heap.size ∧ wr g h U.heap
def Qr {α : Type} (g : Gl) (enc : α → Option LV) (r : α) (h' : Hp) : Array Value → State → Outcome → State → Prop := fun _ st o t => o = .returned ((enc r).map (cvv g)) ∧ wr g h' t.heap ∧ va_F (gA g) st t
def wsy (y : MD) : List Cond := Cond.code y.2.1 y.2.2.1 y.2.2.2.1 y.2.2.2.2.1 :: gws
def Cn {α : Type} (g : Gl) (y : MD) (enc : α → Option LV) (av : List LV) (F : Mo α) : Prop := (CX → Mono F) ∧ ∀ (h : Hp) (r : α) (h' : Hp), F h = some (r, h') →
  Met g.1 y.2.1 (wsy y) { frames := y.2.2.2.2.2.1, cells := h'.1.length - h.1.length, slots := hsz h' - hsz h, locals := y.2.2.2.2.2.2 } (va_Pc (av.map (cvv g)) (fun U => Wd g h U)) (Qr g enc r h') (h'.1.length - h.1.length) (hsz h' - hsz h) (gA g)
/-- what a method's return type asks of its answer -/
def rOK : Option FieldType → Option LV → Prop
  | none, v => v = none
  | some .long, v => ∃ x, v = some (vJ x)
  | some (.object _), v => ∃ x, v = some (vA x)
  | some (.array _), v => ∃ x, v = some (vA x)
  | some .int, v => ∃ x, v = some (vI x)
  | some .boolean, v => ∃ x, v = some (vI x)
  | some .byte, v => ∃ x, v = some (vI x)
  | some .char, v => ∃ x, v = some (vI x)
  | some _, _ => False
def argl : Nat → List LV → List (Nat × LV)
  | _, [] => []
  | i, v :: l => (i, v) :: argl (cond (isJ v) (i + 2) (i + 1)) l
theorem argl_eq (g : Gl) : ∀ (av : List LV) (i : Nat), lv_args i (av.map (cvv g)) = (argl i av).map (fun q => (q.1, cvv g q.2))
  | [], _ => rfl
  | v :: l, i => by
    show (i, cvv g v) :: lv_args (if (cvv g v).category = 2 then i + 2 else i + 1) (l.map (cvv g)) = (i, cvv g v) :: (argl (cond (isJ v) (i + 2) (i + 1)) l).map _
    rw [argl_eq g l]
    congr 4
    have h := cvv_cat g v
    cases hj : isJ v with
    | true =>
      rw [hj] at h
      rw [if_pos (eq_of_beq h)]
      rfl
    | false =>
      rw [hj] at h
      rw [if_neg (fun z => by rw [z] at h; cases h)]
      rfl
def lvsz (v : LV) : Nat := cond (isJ v) 2 1
theorem lg_sl_len (g : Gl) : ∀ av : List LV, (lg_sl (av.map (cvv g))).length = (av.map lvsz).sum
  | [] => rfl
  | v :: l => by
    unfold lg_sl
    rw [List.map_cons, List.flatMap_cons, List.length_append, List.map_cons, List.sum_cons]
    have ih := lg_sl_len g l
    unfold lg_sl at ih
    rw [ih]
    congr 1
    have h := cvv_cat g v
    unfold lvsz
    cases hj : isJ v with
    | true =>
      rw [hj] at h
      rw [if_pos (eq_of_beq h)]
      rfl
    | false =>
      rw [hj] at h
      rw [if_neg (fun z => by rw [z] at h; cases h)]
      rfl
theorem met_ofWF {y : MethodName} {ws ws' : List Cond} {rm : Room} {Pc : Array Value → State → Prop} {Qc : Array Value → State → Outcome → State → Prop} {l : Launch} {mc ms : Nat} {free : Addr → Prop} {cc : ByteArray} {maxL : Nat} {ret : Option FieldType}
    (hy : plainFor y = true) (hw : ws = Cond.code y cc maxL ret :: ws')
    (body : ∀ p e s m args below meth c s₁, BodyLoose p l y (headSpec ws rm) cc maxL ret e s m args below meth c s₁ → c.maxLocals = maxL → Pc args s →
      W p l e (headSpec ws rm).room s m args below meth c s.heap [] 0 0 (MQ below Qc args s mc ms free) (entryFrame m args maxL)) : Met l y ws rm Pc Qc mc ms free := by
  refine MetFree.of_bodySF (code := cc) (maxLocals := maxL) (ret := ret) hy ?_ ?_
  · intro args s m h hn
    obtain ⟨meth, c, h1, h2, h3, h4, h5, h6, -, -⟩ := Cond.code_spec hn (atoms_spec (ws := ws) h _ (by rw [hw]; exact List.mem_cons_self))
    exact ⟨meth, c, h1, h2, h3, h4, h5, h6⟩
  · intro p e s m args below meth c s₁ B hml hP _
    have hh0 : s₁.heap = s.heap := by rw [B.state]; rfl
    obtain ⟨t, a1, o, b1, b2, b3⟩ := body p e s m args below meth c s₁ B hml hP s₁ hh0 (Stand.of_body B)
    exact ⟨t, o, a1, b1, b2, ⟨b3.1, b3.2⟩⟩
set_option maxHeartbeats 1000000 in
theorem cn_of_sn {g : Gl} {av : List LV} {F : Mo α} (hpl : plainFor y.2.1 = true) (hcls : y.1 = y.2.1.cls) (hret : ∀ r, rOK y.2.2.2.2.1 (enc r)) (hav : Nat.ble ((av.map lvsz).sum) y.2.2.2.1 = true) (k : ∀ cx : CX, cx.1 = g → Sn cx y enc 0 (argl 0 av) [] F) : Cn g y enc av F := by
  refine ⟨fun c0 => (k (g, c0.2) rfl).1, fun h r h' hF => ?_⟩
  refine met_ofWF (cc := y.2.2.1) (maxL := y.2.2.2.1) (ret := y.2.2.2.2.1) hpl rfl ?_
  intro p e s m args below meth c s₁ B hml hv
  obtain ⟨rfl, hst, hg, hB, hw⟩ := hv
  have hts0 := atoms_spec (ws := wsy y) B.pre
  generalize hcx : ((g, p, e, (headSpec (wsy y) { frames := y.2.2.2.2.2.1, cells := h'.1.length - h.1.length, slots := hsz h' - hsz h, locals := y.2.2.2.2.2.2 }).room, s, m, (av.map (cvv g)).toArray, below, meth, c, MQ below (Qr g enc r h') (av.map (cvv g)).toArray s (h'.1.length - h.1.length) (hsz h' - hsz h) (gA g), h.1.length, hsz h) : CX) = cx
  have hcx1 : cx.1 = g := by rw [← hcx]
  have ok : Okc cx y := by
    rw [← hcx]
    exact ⟨B.exec, B.bytes, hml, by rw [hcls]; exact findClass_of_methodNamed B.named, fun w hw => hts0 w (List.mem_cons_of_mem _ hw), B.notSynchronized, B.returns, Nat.le_refl _, Nat.le_refl _, fun hq => (name_of_methodNamed B.named B.method).1.trans hq, hst, hg, hB⟩
  have hE : Endc cx y enc r h' := by
    rw [← hcx]
    intro pc H locs lsA hd hn hR
    obtain ⟨w1, w2, -, -⟩ := hR
    have hQ : ∀ t : State, t.heap = H → s.WarmedH t.vm → Qr g enc r h' (av.map (cvv g)).toArray s (.returned ((enc r).map (cvv g))) t := fun t ht _ => ⟨rfl, by rw [ht]; exact w1, w2.F ht⟩
    have hrr := hret r
    have hrt := B.returns
    have hlk := B.notSynchronized
    show W p g.1 e _ s m _ below meth c H locs (h'.1.length - h.1.length) (hsz h' - hsz h) _ _
    generalize y.2.2.2.2.1 = rt at hrr hrt hd hn
    cases rt with
    | none =>
      rw [show enc r = none from hrr] at hQ ⊢
      exact W.vret B.exec B.bytes hrt hQ w2.2.2 hd hlk
    | some ty =>
      cases ty <;> first
        | (exact absurd hrr id)
        | (obtain ⟨x, hx⟩ := hrr; rw [hx] at hQ ⊢; exact W.lret B.exec B.bytes hrt hQ w2.2.2 hd hlk)
        | (obtain ⟨x, hx⟩ := hrr; have hn1 := hn _ _ rfl hx; rw [hx] at hQ ⊢; exact W.zret B.exec B.bytes hrt hn1 hQ w2.2.2 hd hlk)
        | (obtain ⟨x, hx⟩ := hrr; rw [hx] at hQ ⊢; exact W.aret B.exec B.bytes hrt (by first | exact Or.inl ⟨_, rfl⟩ | exact Or.inr ⟨_, rfl⟩) (by cases x with
            | none => exact Or.inl rfl
            | some x => exact Or.inr ⟨_, rfl⟩) hQ w2.2.2 hd hlk)
  have hent := lv_entry (av.map (cvv g)) (n := y.2.2.2.1) (by rw [lg_sl_len]; exact Nat.le_of_ble_eq_true hav)
  rw [lg_entry_eq]
  generalize (lg_sl (av.map (cvv g)) ++ List.replicate (y.2.2.2.1 - (lg_sl (av.map (cvv g))).length) Slot.unset).toArray = ls at hent ⊢
  rw [argl_eq] at hent
  have hK := (k cx hcx1).2 ok h r h' hF hE s.heap [] ls (by rw [← hcx]; exact ⟨hw, va_S.rf, Nat.le_refl _, Nat.le_refl _⟩) (by rw [← hcx]; exact ⟨Nat.le_refl _, Nat.le_refl _⟩) (by unfold cvl; rw [hcx1]; exact hent)
  rw [← hcx] at hK
  unfold Wc at hK
  have e1 : h.1.length - h.1.length = 0 := Nat.sub_self _
  have e2 : hsz h - hsz h = 0 := Nat.sub_self _
  rw [show h.1.length - (_ : CX).2.2.2.2.2.2.2.2.2.2.2.1 = 0 from e1, show hsz h - (_ : CX).2.2.2.2.2.2.2.2.2.2.2.2 = 0 from e2] at hK
  exact hK
end SNR
