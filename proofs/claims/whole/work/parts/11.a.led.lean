/-! ===== led: the class throws, the law catches ===== -/
section LEDT
variable {p : Program} {l : Launch} {e : Env} {R : Room} {s : State} {m : MethodId} {args : Array Value} {below : List Frame} {meth : Method} {c : Code} {H : Heap} {locs : List Loc} {cells slots : Nat}
variable {free : Addr → Prop} {ls : Array Slot} {rest : List Value} {Qc : Array Value → State → Outcome → State → Prop} {XC : String → State → State → Prop}
/-- as vx_throwSW, with the new heap's size told -/
theorem vx_throwSZ {cc : ByteArray} {pc : Nat} (hexec : p.tables.exec = Jvm.exec) (hb : c.code = cc) (hl : l.stackTraces = false) {own cls text : String} {names : List String} {ik is ic mc ms sa : Nat} {A : Nat → Prop}
    (hown : s.vm.findClass own = some m.cls) (hcls : Bundle.fit cls = true) (hnames : ∀ n ∈ names, Bundle.fit n = true)
    (hk : (Cond.classLink own ik cls).before args s = true) (hini : (Cond.initialized cls).before args s = true) (hstr : vk_R own is text sa s) (hat : ∀ w ∈ vx_atS own ic cls names, w.before args s = true)
    (hgood : ∀ w ∈ Cond.classLink own ik cls :: Cond.initialized cls :: vx_atS own ic cls names, vx_ot w = true)
    (hU : vx_Zq Bundle.tN "UNASSIGNED_STACK" Bundle.steD A s s.heap) (hN : vx_Zq Bundle.tN "SUPPRESSED_SENTINEL" Bundle.listD A s s.heap) (hS : va_S A s.heap H locs) (hsize : ls.size = c.maxLocals)
    (d0 : decode cc pc = .ok (.new ik, 3)) (d3 : decode cc (pc + 3) = .ok (.dup, 1)) (d4 : decode cc (pc + 4) = .ok (.ldc_w is, 3)) (d7 : decode cc (pc + 7) = .ok (.invokespecial ic, 3)) (d10 : decode cc (pc + 10) = .ok (.athrow, 1))
    (hout : ∀ x ∈ c.exceptionTable.toList, covers x (pc + 10) = false)
    (hRframes : names.length + 3 < R.frames) (hRlocals : (rest.map fun v => v.category).sum + (13 * (names.length + 1) + 43) ≤ R.locals) (hRcells : cells + 1 ≤ R.cells) (hRslots : slots + 6 ≤ R.slots) (hlocks : meth.locks = false)
    (hx : ∀ t : State, s.vm.Alike t.vm → t.heap.size = H.size + 1 → (∀ q : Nat, q < H.size → t.heap[q]? = H[q]?) → XC cls s t)
    (hf : ∀ z ∈ locs, free z.base) (hc : cells + 1 ≤ mc) (hs : slots + 6 ≤ ms) :
    W p l e R s m args below meth c H locs cells slots (vx_MQ below Qc XC args s mc ms free) (F0 m pc ls rest) := by
  intro T hT X
  have htr : e.platform.stackTraces = false := (show e.platform.stackTraces = l.stackTraces by rw [X.admits.platform]).trans hl
  have Y := vx_rebase X (R' := { frames := R.frames, locals := R.locals, cells := 1, slots := 6 }) (Nat.le_refl _) (Nat.le_refl _) hRcells hRslots
  obtain ⟨s', hA⟩ : ∃ z, z = (T.setVm s.vm).setFrames (.invoking m args :: below) := ⟨_, rfl⟩
  rw [← hA] at Y
  have hvm : s'.vm = s.vm := by rw [hA]; rfl
  have hhp : s'.heap = H := by rw [hA]; exact hT
  have hW0 : s.WarmedH s'.vm := by rw [hvm]; exact State.WarmedH.refl s
  have hat' : ∀ w ∈ vx_atS own ic cls names, w.before args s' = true := fun w hw => vx_ot_at hW0 hvm.symm (hgood w (List.mem_cons_of_mem _ (List.mem_cons_of_mem _ hw))) (hat w hw)
  have hk' : (Cond.classLink own ik cls).before args s' = true := vx_ot_at hW0 hvm.symm (hgood _ List.mem_cons_self) hk
  have hini' : (Cond.initialized cls).before args s' = true := vx_ot_at hW0 hvm.symm (hgood _ (List.mem_cons_of_mem _ List.mem_cons_self)) hini
  have hU' : vx_Zq Bundle.tN "UNASSIGNED_STACK" Bundle.steD A s' s'.heap := by rw [hhp]; exact vx_Zq.moved hW0.alike (hU.kept hS.2.1)
  have hN' : vx_Zq Bundle.tN "SUPPRESSED_SENTINEL" Bundle.listD A s' s'.heap := by rw [hhp]; exact vx_Zq.moved hW0.alike (hN.kept hS.2.1)
  have h : ∀ w ∈ Bundle.ownAtoms own ic cls names, w.before args s' = true := vx_own hat' (vx_isRefq hU'.1) (vx_isRefq hN'.1) hU'.2.word hN'.2.word
  have hown' : s'.vm.findClass own = some m.cls := by rw [hvm]; exact hown
  have hins : (Cond.instantiable cls 6).before args s' = true := h _ (by simp [Bundle.ownAtoms])
  obtain ⟨vm₁, cX, kX, hfX, hkX, -, -, X₁, st1⟩ := Y.newCold hexec (own := own) (C := cls) (index := ik) (n := 6) hown' hk' hins hini'
    (g := F0 m pc ls rest) rfl (by rw [hb]; exact d0) (Nat.le_refl _) (Nat.le_refl _)
  generalize hT1 : (T.setVm vm₁).pushCell { cls := cX, slots := kX.instanceTypes.map defaultValue, vm := .none } = T1 at X₁ st1
  have hcat : (Value.ref T.heap.size).category = 1 := rfl
  have hcellA : T1.heap[T.heap.size]? = some (freshCell cX kX) := by rw [← hT1]; exact State.heap_pushCell_size _ _
  have d3' : decode c.code (pc + 3) = .ok (.dup, 1) := by rw [hb]; exact d3
  have d4' : decode c.code (pc + 4) = .ok (.ldc_w is, 3) := by rw [hb]; exact d4
  have hstr' : vk_R own is text sa s' := vk_R.warm hW0 hstr
  obtain ⟨U, hsteps, hrun, hend, hW, hsame, ce, hce, hO⟩ := X₁.ctorThrowS hexec htr (own := own) (cls := cls) (names := names) (ic := ic) hown' hcls hnames h (fun x hx => nomatch hx) hfX hkX hcellA (by rw [hhp, hT]; exact Nat.le_refl _) (msg := .ref sa) rfl
    (g := { method := m, pc := pc + 7, locals := ls, stack := .ref sa :: .ref T.heap.size :: .ref T.heap.size :: rest, locked := none }) rfl hsize rfl rfl (rest := rest) rfl
    (by rw [hb]; exact d7) (by rw [hb]; exact d10) hout hRframes (by simp only [List.map_cons, List.sum_cons, hcat]; omega) hlocks
  obtain ⟨f1, f2⟩ := vx_frame hsame
  rw [hhp] at f1 f2
  have hWs : s.WarmedH U.vm := State.WarmedH.trans hW0 hW
  have hcl : s.vm.findClass cls = some ce.cls := by
    have h9 := hO.cls
    rw [hvm] at h9
    exact h9
  have hall : s.sameButNew ({ U with vm := s.vm } : State) locs mc ms := by
    subst hA
    obtain ⟨e1, e2⟩ := hsame
    rw [State.setFrames_setFrames] at e1
    have h2 : (T.setVm s.vm).sameButNew ({ U with vm := s.vm } : State) [] (0 + 1) (0 + 6) := ⟨e1, e2⟩
    have h3 := X.same.trans h2
    rw [List.append_nil] at h3
    exact h3.mono hc hs
  have hsz1 : U.heap.size = H.size + 1 := by
    obtain ⟨-, -, g3, -⟩ := id hsame
    rw [hhp] at g3
    have g4 := (Array.getElem?_eq_some_iff.mp hce).1
    rw [hT] at g4
    have g5 : U.heap.size ≤ H.size + (0 + 1) := g3
    omega
  refine ⟨U, ?_, .threw T.heap.size, hrun, hend, Or.inr ⟨T.heap.size, rfl, cls, ce, locs, hx U hWs.alike hsz1 (fun q hq => f2 q hq (fun z hz => nomatch hz)), hce, hO.vm, hcl, hWs, hall, hf⟩⟩
  refine st1 _ ?_
  show Steps p.tables e below (T1.setTop { method := m, pc := pc + 3, locals := ls, stack := .ref T.heap.size :: rest, locked := none }) _
  jvm_step X₁.here [X₁.here.top, hexec, d3', Value.category]
  exact X₁.ldcStringW hexec (own := own) (text := text) (index := is) (a := sa) hown' hstr'.1 hstr'.2
    (g := { method := m, pc := pc + 4, locals := ls, stack := .ref T.heap.size :: .ref T.heap.size :: rest, locked := none }) rfl d4' _ hsteps
end LEDT
abbrev ld_E : String := "java/util/NoSuchElementException"
abbrev ld_N : List String := ["java/lang/RuntimeException", "java/lang/Exception"]
abbrev ld_C : Cond := .castable ld_E ld_E
theorem ld_tbl : ∀ w ∈ (vx_atS RX10 310 ld_E ld_N).filter goodWord, w ∈ lw_tbl := by decide +kernel
theorem ld_gws : ∀ w ∈ (vx_atS RX10 310 ld_E ld_N).filter goodWord, w ∈ gws := fun w h => List.mem_filter.mpr ⟨ld_tbl w h, (List.mem_filter.mp h).2⟩
theorem ld_bad : ∀ w ∈ (vx_atS RX10 310 ld_E ld_N).filter (fun w => !goodWord w), w ∈ [ld_C] := by decide +kernel
theorem ld_ot : ∀ w ∈ Cond.classLink RX10 306 ld_E :: Cond.initialized ld_E :: vx_atS RX10 310 ld_E ld_N, vx_ot w = true := by decide +kernel
theorem ld_k1 : Cond.classLink RX10 306 ld_E ∈ gws := List.mem_filter.mpr ⟨by decide +kernel, by decide +kernel⟩
theorem ld_k2 : Cond.initialized ld_E ∈ gws := List.mem_filter.mpr ⟨by decide +kernel, by decide +kernel⟩
theorem ld_k3 : Cond.classLink RL 13 ld_E ∈ gws := List.mem_filter.mpr ⟨by decide +kernel, by decide +kernel⟩
abbrev m_X10_led : MD := (RX10, yX10_led, cX10_led, 5, some .int, 6, 121)
abbrev m_L_led : MD := (RL, yL_led, cL_led, 5, some .int, 7, 145)
theorem ld_w1 : Cond.code yX2_powerOfRank cX2_powerOfRank 4 (some .int) ∈ gws := List.mem_filter.mpr ⟨by decide +kernel, by decide +kernel⟩
theorem ld_w2 : Cond.methodLink RX10 303 yX2_powerOfRank ∈ gws := List.mem_filter.mpr ⟨by decide +kernel, by decide +kernel⟩
theorem ld_w3 : Cond.instanceMethod yX2_powerOfRank ∈ gws := List.mem_filter.mpr ⟨by decide +kernel, by decide +kernel⟩
theorem ld_w4 : Cond.selects RX2 yX2_powerOfRank yX2_powerOfRank ∈ gws := List.mem_filter.mpr ⟨by decide +kernel, by decide +kernel⟩
theorem ld_w5 : Cond.code yX10_led cX10_led 5 (some .int) ∈ gws := List.mem_filter.mpr ⟨by decide +kernel, by decide +kernel⟩
theorem ld_w6 : Cond.methodLink RL 7 yX10_led ∈ gws := List.mem_filter.mpr ⟨by decide +kernel, by decide +kernel⟩
theorem ld_w7 : Cond.instanceMethod yX10_led ∈ gws := List.mem_filter.mpr ⟨by decide +kernel, by decide +kernel⟩
theorem ld_w8 : Cond.selects RX10 yX10_led yX10_led ∈ gws := List.mem_filter.mpr ⟨by decide +kernel, by decide +kernel⟩
theorem ld_w9 : Cond.codeWith yL_led cL_led 5 (some .int) [(0, 10, 13, 13)] ∈ gws := List.mem_filter.mpr ⟨by decide +kernel, by decide +kernel⟩
theorem ld_v1 : Cond.methodLink RL 202 yL_led ∈ gws := List.mem_filter.mpr ⟨by decide +kernel, by decide +kernel⟩
theorem ld_v2 : Cond.static yL_led ∈ gws := List.mem_filter.mpr ⟨by decide +kernel, by decide +kernel⟩
theorem ld_v3 : Cond.initialized RL ∈ gws := List.mem_filter.mpr ⟨by decide +kernel, by decide +kernel⟩
theorem lk_X10_303 : LKm RX10 303 m_X2_powerOfRank 1 := ⟨ld_w2, iw_X2, ld_w1, (show "TurningSums$Field" ≠ _ by decide), (show "TurningSums$Field" ≠ _ by decide), (by decide +kernel : (parseMethodDescriptor yX2_powerOfRank.desc).map (fun d => d.parameters.length) = some 1)⟩
theorem lk_L_7 : LKm RL 7 m_X10_led 2 := ⟨ld_w6, iw_X10, ld_w5, (show "TurningSums" ≠ _ by decide), (show "TurningSums" ≠ _ by decide), (by decide +kernel : (parseMethodDescriptor yX10_led.desc).map (fun d => d.parameters.length) = some 2)⟩
