/-! THE CLAIM OUT OF ONE WALK OF THE LAW'S BODY. Your part is whole_start (and what it stands on); all else here is the same for every law, but numbers. -/
def R_law : String := "TurningSumsLaw"
def lw_P (b : Addr) (xs : List Int32) (args : Array Value) (s : State) : Prop := args = #[.ref b] ∧ s.IntsAt b xs ∧ xs.length ≤ 3072 ∧ (Jvm.Cond.and given_1 narrow_1).before args s = true
def lw_Q (_ : Array Value) (s : State) (o : Outcome) (t : State) : Prop := o = .returned (some (.int 1)) ∧ Framed s o t [] 601024 7293034
def lw_Z (below : List Frame) (a : Array Value) (s : State) : State → Prop := fun t => ∃ o, t.status = .running ∧ Ended t below o ∧ lw_Q a s o t
/-- the law's own end, with 1 on the stack, nothing written that was there before, its room as the claim has it -/
theorem lw_ret {p : Program} {l : Launch} {e : Env} {s : State} {m : MethodId} {below : List Frame} {meth : Method} {c : Code} {b : Nat} (hx : p.tables.exec = Jvm.exec) (hb : c.code = code) (hr : meth.sig.returnType = ret) (hlocks : meth.locks = false) {pc : Nat} {H : Heap} {ls : Array Slot} (hdg : decode code pc = .ok (.ireturn, 1)) : W p l e room_1 s m #[Value.ref b] below meth c H [] 601024 7293034 (lw_Z below #[Value.ref b] s) (F0 m pc ls [.int 1]) := by
  intro T hT X
  obtain ⟨fs, hret, hrun, hended, hW, hframe⟩ := X.leave (v := some (.int 1)) (hlocks := hlocks) (fun h => by rw [hr] at h; cases h)
  have hmeth' : T.vm.method? m = some meth := X.method'
  refine ⟨T.setFrames fs, ?_, .returned (some (.int 1)), hrun, hended, rfl, ⟨_, rfl⟩, hW, hframe⟩
  jvm_step X.here [X.here.top, hx, hb, hdg, hmeth', hr, ret, narrow_b1]
  (try refine ⟨rfl, ?_⟩); (try refine ⟨rfl, ?_⟩)
  first | (intro acts; rw [hret _ acts rfl rfl rfl]) | rw [hret _ _ rfl rfl rfl]
  exact Steps.refl _
/-- what holds at the law's entry: the machine, the code, the tables' words (any of lw_tbl by 'hts w (by decide +kernel)'), the script of L ints xs at the cell b, what the Statement gives of the start (any of its parts by flat_of_before) -/
def lw_At (p : Program) (s : State) (m : MethodId) (meth : Method) (c : Code) (b L : Nat) (xs : Nat → Int32) : Prop :=
  p.tables.exec = Jvm.exec ∧ c.code = code ∧ meth.sig.returnType = ret ∧ c.maxLocals = 7 ∧ s.vm.findClass R_law = some m.cls ∧ (∀ w ∈ lw_tbl, w.before #[Value.ref b] s = true) ∧ va_X b L xs s s.heap ∧ b < s.heap.size ∧ meth.locks = false ∧ (Jvm.Cond.and given_1 narrow_1).before #[Value.ref b] s = true
/-! ===== what is left to show: a run of the law over the abstract heap ===== -/
theorem law_red {p : Program} {e : Env} {s : State} {m : MethodId} {below : List Frame} {meth : Method} {c : Code} (l : Launch) {b L : Nat} {xs : Nat → Int32} (C0 : lw_At p s m meth c b L xs) (hled : ∀ cx : CX, cx.1.1 = l → va_Nw (.castable "java/util/NoSuchElementException" "java/util/NoSuchElementException") cx.2.2.2.2.1 → LedOk cx) {h' : Hp} (hrun : f_L_law xs L h00 = some (1, h')) (hc : h'.1.length ≤ 64 + 601024) (hs : hsz h' ≤ hsz h00 + 7293034) :
    W p l e room_1 s m #[Value.ref b] below meth c s.heap [] 0 0 (lw_Z below #[Value.ref b] s) (entryFrame m ([Value.ref b] : List Value).toArray 7) := by
  obtain ⟨hx, hb, hr, hml, hown, hts, hX, hbl, hlocks, hgv⟩ := C0
  obtain ⟨g, g1, gB1, gK1, gI1, gO2, hst, hg⟩ := start_world l hts hgv b
  subst g1
  generalize hcx : ((g, p, e, room_1, s, m, #[Value.ref b], below, meth, c, lw_Z below #[Value.ref b] s, 64, hsz h00) : CX) = cx
  have ok : Okc cx m_L_law := by
    rw [← hcx]
    exact ⟨hx, hb, hml, hown, fun w hw => hts w (List.mem_filter.mp hw).1, hlocks, hr, Nat.le_of_ble_eq_true rfl, Nat.le_of_ble_eq_true rfl, fun q => absurd q (by decide +kernel), hst, hg, Nat.le_of_eq gB1⟩
  have had : ad g 2 = b := (if_pos (by decide)).trans gO2
  have hS : Scr cx xs L := by
    rw [← hcx]
    refine ⟨?_, ?_, ?_⟩
    · show va_X (ad g 2) L xs s s.heap
      rw [had]; exact hX
    · show ad g 2 < s.heap.size
      rw [had]; exact hbl
    · show ¬ (gB g ≤ ad g 2)
      rw [had, gB1]; exact Nat.not_le.mpr hbl
  have hE : Endc cx m_L_law eI 1 h' := by
    rw [← hcx]
    intro pc H locs lsA hd hn hR
    obtain ⟨w1, w2, -, -⟩ := hR
    refine va_forget (fun q hq => ?_) ?_
    · have h1 := w2.2.2 q hq
      have h2 : gB g ≤ q.base := h1
      rw [gB1] at h2
      exact h2
    · refine W.widen (k := h'.1.length - 64) (n := hsz h' - hsz h00) (Nat.le_refl _) (Nat.le_refl _) ?_
      refine W.widen (k := 601024) (n := 7293034) (by omega) (by omega) ?_
      exact lw_ret hx hb hr hlocks hd
  have hent := lv_entry ([Value.ref b]) (n := 7) (Nat.le_of_ble_eq_true rfl)
  rw [lg_entry_eq]
  generalize (lg_sl ([Value.ref b]) ++ List.replicate (7 - (lg_sl ([Value.ref b])).length) Slot.unset).toArray = ls at hent ⊢
  have hw : wr g h00 s.heap := by
    refine ⟨⟨[], by rw [gK1, List.append_nil]; rfl⟩, fun a _ => by rw [gI1]; rfl, ?_, ?_, fun a q ha hq => ?_⟩
    · show 64 ≤ K00.length
      rw [K00_len]; exact Nat.le_refl _
    · show s.heap.size = gB g + (K00.length - 64)
      rw [K00_len, gB1]; rfl
    · have h1 := (List.getElem?_eq_some_iff.mp hq).1
      have h2 : a < K00.length := h1
      rw [K00_len] at h2
      omega
  have hK := (s_L_law hS (hled cx (by rw [← hcx]) (by rw [← hcx]; exact va_Nw.of rfl (hts _ (by decide +kernel))))).2 ok h00 1 h' hrun hE s.heap [] ls (by
      rw [← hcx]
      exact ⟨hw, va_S.rf, by show 64 ≤ K00.length; rw [K00_len]; exact Nat.le_refl _, Nat.le_refl _⟩) (by
      rw [← hcx]
      exact ⟨by show h'.1.length - 64 ≤ 601024; omega, by show hsz h' - hsz h00 ≤ 7293034; omega⟩) (by
      rw [← hcx]
      show lv_has ls 7 [(0, .ref (ad g 2))]
      rw [had]
      exact hent)
  rw [← hcx] at hK
  have e1 : h00.1.length - 64 = 0 := by show K00.length - 64 = 0; rw [K00_len]
  have e2 : hsz h00 - hsz h00 = 0 := Nat.sub_self _
  unfold Wc at hK
  rw [show h00.1.length - ((g, p, e, room_1, s, m, #[Value.ref b], below, meth, c, lw_Z below #[Value.ref b] s, 64, hsz h00) : CX).2.2.2.2.2.2.2.2.2.2.2.1 = 0 from e1, show hsz h00 - ((g, p, e, room_1, s, m, #[Value.ref b], below, meth, c, lw_Z below #[Value.ref b] s, 64, hsz h00) : CX).2.2.2.2.2.2.2.2.2.2.2.2 = 0 from e2] at hK
  exact hK
