/-! ===== calls ===== -/
/-- the receiver is an object of the class -/
def mCk {α : Type} (c : Nat) (o : Option Nat) (F : Mo α) : Mo α := fun h => match o with
  | none => none
  | some a => if kd h a = (0, c) then F h else none
theorem ck_inv {α : Type} {c : Nat} {o : Option Nat} {F : Mo α} {h : Hp} {z : α × Hp} (e : mCk c o F h = some z) : ∃ a, o = some a ∧ kd h a = (0, c) ∧ F h = some z := by
  cases o with
  | none => cases e
  | some a =>
    unfold mCk at e
    dsimp only at e
    split at e
    · rename_i hk
      exact ⟨a, rfl, hk, e⟩
    · cases e
theorem mono_ck {α : Type} {c : Nat} {o : Option Nat} {F : Mo α} (m : Mono F) : Mono (mCk c o F) := fun h r h' e => by
  obtain ⟨a, -, -, e1⟩ := ck_inv e
  exact m h r h' e1
theorem sn_ck {α : Type} {cx : CX} {y : MD} {enc : α → Option LV} {pc c : Nat} {o : Option Nat} {ls : List (Nat × LV)} {st : List LV} {F : Mo α} (k : Sn cx y enc pc ls st F) : Sn cx y enc pc ls st (mCk c o F) :=
  ⟨mono_ck k.1, fun ok h r h' hF hE H locs lsA hR hm hl => by
    obtain ⟨_, _, _, e1⟩ := ck_inv hF
    exact k.2 ok h r h' e1 hE H locs lsA hR hm hl⟩
theorem good_gws : ∀ w ∈ gws, w ∈ gws ∧ ((w.onTables && w.keeps) = true ∨ ∃ ty, w = .arrayClass ty) := fun w h => ⟨h, good_of_word (List.mem_filter.mp h).2⟩
theorem good_wsy {y : MD} (h : Cond.code y.2.1 y.2.2.1 y.2.2.2.1 y.2.2.2.2.1 ∈ gws) : GoodIn gws (wsy y) := fun w hw => by
  rcases List.mem_cons.mp hw with rfl | hw
  · exact good_gws _ h
  · exact good_gws _ hw
/-- what the tables say of a call: linked, its code, how many arguments -/
def LKm (own : String) (idx : Nat) (y : MD) (n : Nat) : Prop := Cond.methodLink own idx y.2.1 ∈ gws ∧ Cond.initialized y.2.1.cls ∈ gws ∧ Cond.code y.2.1 y.2.2.1 y.2.2.2.1 y.2.2.2.2.1 ∈ gws ∧ y.2.1.cls ≠ "java/lang/invoke/MethodHandle" ∧ y.2.1.cls ≠ "java/lang/invoke/VarHandle" ∧ (parseMethodDescriptor y.2.1.desc).map (fun d => d.parameters.length) = some n
section SNC
variable {α β : Type} {cx : CX} {y y2 : MD} {enc : α → Option LV} {enc2 : β → Option LV} {pc : Nat} {ls : List (Nat × LV)} {st : List LV} {F : Mo α}
theorem wd_now (ok : Okc cx y) {h : Hp} {H : Heap} {locs : List Loc} (hR : Rdy cx h H locs) (U : State) (hU : U.heap = H) (hW : cx.2.2.2.2.1.WarmedH U.vm) : Wd cx.1 h U := by
  have hst := ok.2.2.2.2.2.2.2.2.2.2.1
  have hg := ok.2.2.2.2.2.2.2.2.2.2.2.1
  have hB := ok.2.2.2.2.2.2.2.2.2.2.2.2
  rw [Wd, hU]
  refine ⟨stw_warm hW (stw_kept hg hB (fun a h1 h2 => hR.2.1.2.1 a h1 h2) hst), hg, Nat.le_trans hB hR.2.1.1, hR.1⟩
theorem wd_blind (g : Gl) (h : Hp) (av : List Value) : FrameBlind (va_Pc av (fun U => Wd g h U)) := fun a U fr mk q => ⟨q.1, stw_same rfl q.2.1, q.2.2⟩
theorem mono_inv {F1 : Mo β} {G : β → Mo α} (m1 : Mono F1) (kk : ∀ r, Sn cx y enc (pc + 3) ls ((enc2 r).toList ++ st) (G r)) : Mono (mBd F1 G) := mono_bd m1 (fun r => (kk r).1)
theorem map_toList (g : Gl) (o : Option LV) : (o.map (cvv g)).toList = o.toList.map (cvv g) := by cases o <;> rfl
/-- behind a call -/
theorem sn_after {F1 : Mo β} {G : β → Mo α} (m1 : Mono F1) (kk : ∀ r, Sn cx y enc (pc + 3) ls ((enc2 r).toList ++ st) (G r)) (ok : Okc cx y) {h h1 h' : Hp} {x : β} {r : α} (e1 : F1 h = some (x, h1)) (e2 : G x h1 = some (r, h')) (hE : Endc cx y enc r h') {H : Heap} {locs : List Loc} {lsA : Array Slot} (hR : Rdy cx h H locs) (hm : Rm cx h') (hll : lv_has lsA y.2.2.2.1 (cvl cx ls)) {args1 : Array Value} {st0 : List Value}
    (hr : va_Run cx.2.1 cx.1.1 cx.2.2.1 cx.2.2.2.1 cx.2.2.2.2.1 cx.2.2.2.2.2.1 cx.2.2.2.2.2.2.1 cx.2.2.2.2.2.2.2.1 cx.2.2.2.2.2.2.2.2.1 cx.2.2.2.2.2.2.2.2.2.1 H locs (h.1.length - cx.2.2.2.2.2.2.2.2.2.2.2.1) (hsz h - cx.2.2.2.2.2.2.2.2.2.2.2.2) (h1.1.length - h.1.length) (hsz h1 - hsz h) (F0 cx.2.2.2.2.2.1 pc lsA st0) (st.map (cvv cx.1)) (Qr cx.1 enc2 x h1 args1) (gA cx.1)) :
    Wc cx h H locs (F0 cx.2.2.2.2.2.1 pc lsA st0) := by
  intro T hT X
  obtain ⟨v, st₀, t, T', L, h0, X', hL, z1, z2, ⟨hv, hw, hf⟩, stp⟩ := hr T hT X
  have hv1 : v = (enc2 x).map (cvv cx.1) := by cases hv; rfl
  have hlen := m1.len e1
  obtain ⟨r1, r2, r3, r4⟩ := hR
  rw [va_F, h0] at hf
  have hR1 : Rdy cx h1 T'.heap (locs ++ L) := by
    rw [z1]
    refine ⟨hw, ⟨Nat.le_trans r2.1 hf.1, fun q q1 q2 => (hf.2 q (Nat.lt_of_lt_of_le q1 r2.1) q2).trans (r2.2.1 q q1 q2), fun q hq => ?_⟩, by omega, by omega⟩
    rcases List.mem_append.mp hq with z | z
    · exact r2.2.2 q z
    · exact hL q z
  have K := (kk x).2 ok h1 r h' e2 hE T'.heap (locs ++ L) lsA hR1 hm hll
  unfold Wc at K
  rw [show h1.1.length - cx.2.2.2.2.2.2.2.2.2.2.2.1 = h.1.length - cx.2.2.2.2.2.2.2.2.2.2.2.1 + (h1.1.length - h.1.length) by omega, show hsz h1 - cx.2.2.2.2.2.2.2.2.2.2.2.2 = hsz h - cx.2.2.2.2.2.2.2.2.2.2.2.2 + (hsz h1 - hsz h) by omega] at K
  obtain ⟨t2, a1, b1⟩ := K T' rfl X'
  refine ⟨t2, stp t2 ?_, b1⟩
  rw [hv1, map_toList, ← List.map_append]
  exact a1
theorem room_call {F1 : Mo β} {G : β → Mo α} (m1 : Mono F1) (kk : ∀ r, Sn cx y enc (pc + 3) ls ((enc2 r).toList ++ st) (G r)) {h h1 h' : Hp} {x : β} {r : α} (e1 : F1 h = some (x, h1)) (e2 : G x h1 = some (r, h')) {H : Heap} {locs : List Loc} (hR : Rdy cx h H locs) (hm : Rm cx h') : h.1.length - cx.2.2.2.2.2.2.2.2.2.2.2.1 + (h1.1.length - h.1.length) ≤ cx.2.2.2.1.cells ∧ hsz h - cx.2.2.2.2.2.2.2.2.2.2.2.2 + (hsz h1 - hsz h) ≤ cx.2.2.2.1.slots := by
  have a1 := m1.len e1
  have a2 := (kk x).1.len e2
  obtain ⟨r1, r2, r3, r4⟩ := hR
  obtain ⟨m2, m3⟩ := hm
  omega
theorem rest_room {g : Gl} {f : JFrame} (hf : f.monitorRoom = 0) (hrest : Nat.ble ((st.map lvsz).sum) 8 = true) : 2 * f.monitorRoom + ((st.map (cvv g)).map fun v => v.category).sum ≤ 8 := by
  rw [hf]
  have h := Nat.le_of_ble_eq_true hrest
  have e : ∀ l : List LV, ((l.map (cvv g)).map fun v => v.category).sum = (l.map lvsz).sum := by
    intro l
    induction l with
    | nil => rfl
    | cons v l ih =>
      rw [List.map_cons, List.map_cons, List.sum_cons, List.map_cons, List.sum_cons, ih]
      congr 1
      rcases v with x | x | (_ | x) <;> rfl
  rw [e]
  omega
theorem stack_eq (g : Gl) (av : List LV) (st : List LV) : (av.reverse ++ st).map (cvv g) = (av.map (cvv g)).reverse ++ st.map (cvv g) := by
  rw [List.map_append, List.map_reverse]
theorem sn_invS {idx n : Nat} (d : decode y.2.2.1 pc = .ok (.invokestatic idx, 3)) (hl : LKm y.1 idx y2 n) (hs : Cond.static y2.2.1 ∈ gws) {av stk : List LV} (hn : av.length = n) (hstk : stk = av.reverse ++ st) (hrest : Nat.ble ((st.map lvsz).sum) 8 = true) (hroom : y2.2.2.2.2.2.1 + 1 ≤ y.2.2.2.2.2.1 ∧ 8 + (y2.2.2.2.1 + 11) + y2.2.2.2.2.2.2 ≤ y.2.2.2.2.2.2) {F1 : Mo β} {G : β → Mo α} (hc : Cn cx.1 y2 enc2 av F1) (kk : ∀ r, Sn cx y enc (pc + 3) ls ((enc2 r).toList ++ st) (G r)) : Sn cx y enc pc ls stk (mBd F1 G) := by
  subst hstk
  have m1 := hc.1 cx
  refine ⟨mono_inv m1 kk, fun ok h r h' hF hE H locs lsA hR hm hll => ?_⟩
  obtain ⟨x, h1, e1, e2⟩ := bd_inv hF
  obtain ⟨l1, l2, l3, l4, l5, l6⟩ := hl
  rw [stack_eq]
  refine sn_after m1 kk ok e1 e2 hE hR hm hll (va_runS (n := n) (As := av.map (cvv cx.1)) ⟨ok.1, ok.2.1, ok.2.2.1, ok.2.2.2.1, ok.2.2.2.2.1⟩ (hc.2 h x h1 e1)
    (va_cwS n ok.2.2.2.2.1 (fun w hw => ?_) rfl rfl rfl ⟨l4, l5, l6⟩ ⟨?_, ?_⟩) ⟨wd_blind _ _ _, fun U hU hW => ⟨rfl, wd_now ok hR U hU hW⟩⟩ rfl (by rw [List.length_map]; exact hn) hll.1 rfl (rest_room rfl hrest) d (room_call m1 kk e1 e2 hR hm))
  · rcases List.mem_append.mp hw with z | z
    · simp only [List.mem_cons, List.not_mem_nil, or_false] at z
      rcases z with z | z | z
      · rw [z]; exact good_gws _ l1
      · rw [z]; exact good_gws _ hs
      · rw [z]; exact good_gws _ l2
    · exact good_wsy l3 w z
  · exact Nat.le_trans hroom.1 ok.2.2.2.2.2.2.2.1
  · exact Nat.le_trans hroom.2 ok.2.2.2.2.2.2.2.2.1
def LKn (own : String) (idx : Nat) (y : MD) (n : Nat) : Prop := ∃ host, (own, idx, y.2.1, host) ∈ nwM ∧ Cond.initialized y.2.1.cls ∈ gws ∧ Cond.code y.2.1 y.2.2.1 y.2.2.2.1 y.2.2.2.2.1 ∈ gws ∧ y.2.1.cls ≠ "java/lang/invoke/MethodHandle" ∧ y.2.1.cls ≠ "java/lang/invoke/VarHandle" ∧ (parseMethodDescriptor y.2.1.desc).map (fun d => d.parameters.length) = some n
theorem sn_invSN {idx n : Nat} (d : decode y.2.2.1 pc = .ok (.invokestatic idx, 3)) (hl : LKn y.1 idx y2 n) (hs : Cond.static y2.2.1 ∈ gws) {av stk : List LV} (hn : av.length = n) (hstk : stk = av.reverse ++ st) (hrest : Nat.ble ((st.map lvsz).sum) 8 = true) (hroom : y2.2.2.2.2.2.1 + 1 ≤ y.2.2.2.2.2.1 ∧ 8 + (y2.2.2.2.1 + 11) + y2.2.2.2.2.2.2 ≤ y.2.2.2.2.2.2) {F1 : Mo β} {G : β → Mo α} (hc : Cn cx.1 y2 enc2 av F1) (kk : ∀ r, Sn cx y enc (pc + 3) ls ((enc2 r).toList ++ st) (G r)) : Sn cx y enc pc ls stk (mBd F1 G) := by
  subst hstk
  have m1 := hc.1 cx
  refine ⟨mono_inv m1 kk, fun ok h r h' hF hE H locs lsA hR hm hll => ?_⟩
  obtain ⟨x, h1, e1, e2⟩ := bd_inv hF
  obtain ⟨host, l1, l2, l3, l4, l5, l6⟩ := hl
  rw [stack_eq]
  exact sn_after m1 kk ok e1 e2 hE hR hm hll (va_runSN (n := n) (host := host) (As := av.map (cvv cx.1)) ⟨ok.1, ok.2.1, ok.2.2.1, ok.2.2.2.1, ok.2.2.2.2.1⟩ (hc.2 h x h1 e1)
    ⟨va_cnB n ok.2.2.2.2.1 (good_wsy l3) rfl rfl rfl (ok.2.2.2.2.2.2.2.2.2.2.1.2.1.2.2.1 _ _ _ _ l1) (ok.2.2.2.2.1 _ l2) ⟨l4, l5, l6⟩ ⟨Nat.le_trans hroom.1 ok.2.2.2.2.2.2.2.1, Nat.le_trans hroom.2 ok.2.2.2.2.2.2.2.2.1⟩, ok.2.2.2.2.1 _ hs, trivial⟩ ⟨wd_blind _ _ _, fun U hU hW => ⟨rfl, wd_now ok hR U hU hW⟩⟩ rfl (by rw [List.length_map]; exact hn) hll.1 rfl (rest_room rfl hrest) d (room_call m1 kk e1 e2 hR hm))
theorem sn_invV {idx n c : Nat} {C : String} {T : u_T} {N : Nat} {ty : Nat → FieldType} (hca : CA c C T N ty) (d : decode y.2.2.1 pc = .ok (.invokevirtual idx, 3)) (hl : LKm y.1 idx y2 n) (hi : Cond.instanceMethod y2.2.1 ∈ gws) (hse : Cond.selects C y2.2.1 y2.2.1 ∈ gws) (hC : y2.2.1.cls = C) {av stk : List LV} {o : Option Nat} (hn : av.length = n) (hstk : stk = av.reverse ++ vA o :: st) (hrest : Nat.ble ((st.map lvsz).sum) 8 = true) (hroom : y2.2.2.2.2.2.1 + 1 ≤ y.2.2.2.2.2.1 ∧ 8 + (y2.2.2.2.1 + 11) + y2.2.2.2.2.2.2 ≤ y.2.2.2.2.2.2) {F1 : Mo β} {G : β → Mo α} (hc : Cn cx.1 y2 enc2 (vA o :: av) (mCk c o F1)) (kk : ∀ r, Sn cx y enc (pc + 3) ls ((enc2 r).toList ++ st) (G r)) : Sn cx y enc pc ls stk (mBd (mCk c o F1) G) := by
  subst hstk
  subst hC
  have m1 := hc.1 cx
  refine ⟨mono_inv m1 kk, fun ok h r h' hF hE H locs lsA hR hm hll => ?_⟩
  obtain ⟨x, h1, e1, e2⟩ := bd_inv hF
  obtain ⟨b, hb, hkb, -⟩ := ck_inv e1
  subst hb
  obtain ⟨l1, l2, l3, l4, l5, l6⟩ := hl
  rw [stack_eq]
  obtain ⟨-, hat⟩ := ts_obj hca ok.2.2.2.2.2.2.2.2.2.2.2.1 hR.1 hkb
  refine sn_after m1 kk ok e1 e2 hE hR hm hll (va_runV (n := n) (C := y2.2.1.cls) (b := ad cx.1 b) (As := av.map (cvv cx.1)) ⟨ok.1, ok.2.1, ok.2.2.1, ok.2.2.2.1, ok.2.2.2.2.1⟩ (hc.2 h x h1 e1)
    (cwV n ok.2.2.2.2.1 (fun w hw => ?_) rfl rfl rfl ⟨rfl, l4, l5, l6⟩ ⟨?_, ?_⟩) ⟨wd_blind _ _ _, va_recv ok.2.2.2.2.2.2.2.2.2.2.1.1 (va_P1 hat) hca.1 (q0 := 0) rfl, fun U hU hW => ⟨rfl, wd_now ok hR U hU hW⟩⟩ rfl (by rw [List.length_map]; exact hn) hll.1 rfl (rest_room rfl hrest) d (room_call m1 kk e1 e2 hR hm))
  · rcases List.mem_append.mp hw with z | z
    · simp only [List.mem_cons, List.not_mem_nil, or_false] at z
      rcases z with z | z | z | z
      · rw [z]; exact good_gws _ l1
      · rw [z]; exact good_gws _ hi
      · rw [z]; exact good_gws _ hse
      · rw [z]; exact good_gws _ l2
    · exact good_wsy l3 w z
  · exact Nat.le_trans hroom.1 ok.2.2.2.2.2.2.2.1
  · exact Nat.le_trans hroom.2 ok.2.2.2.2.2.2.2.2.1
theorem sn_invI {idx n c : Nat} (d : decode y.2.2.1 pc = .ok (.invokespecial idx, 3)) (hl : LKm y.1 idx y2 n ∨ ∃ host, (y.1, idx, y2.2.1, host) ∈ nwM ∧ Cond.initialized y2.2.1.cls ∈ gws ∧ Cond.code y2.2.1 y2.2.2.1 y2.2.2.2.1 y2.2.2.2.2.1 ∈ gws ∧ y2.2.1.cls ≠ "java/lang/invoke/MethodHandle" ∧ y2.2.1.cls ≠ "java/lang/invoke/VarHandle" ∧ (parseMethodDescriptor y2.2.1.desc).map (fun d => d.parameters.length) = some n) (hi : Cond.instanceMethod y2.2.1 ∈ gws) (hini : y2.2.1.name = "<init>") (hv : y2.2.2.2.2.1 = none) {av stk : List LV} {o : Option Nat} (hn : av.length = n) (hstk : stk = av.reverse ++ vA o :: st) (hrest : Nat.ble ((st.map lvsz).sum) 8 = true) (hroom : y2.2.2.2.2.2.1 + 1 ≤ y.2.2.2.2.2.1 ∧ 8 + (y2.2.2.2.1 + 11) + y2.2.2.2.2.2.2 ≤ y.2.2.2.2.2.2) {F1 : Mo β} {G : β → Mo α} (hc : Cn cx.1 y2 enc2 (vA o :: av) (mCk c o F1)) (kk : ∀ r, Sn cx y enc (pc + 3) ls ((enc2 r).toList ++ st) (G r)) : Sn cx y enc pc ls stk (mBd (mCk c o F1) G) := by
  subst hstk
  have m1 := hc.1 cx
  refine ⟨mono_inv m1 kk, fun ok h r h' hF hE H locs lsA hR hm hll => ?_⟩
  obtain ⟨x, h1, e1, e2⟩ := bd_inv hF
  obtain ⟨b, hb, hkb, -⟩ := ck_inv e1
  subst hb
  rw [stack_eq]
  have hw1 : wsy y2 = Cond.code y2.2.1 y2.2.2.1 y2.2.2.2.1 none :: gws := by unfold wsy; rw [hv]
  have hr1 := Nat.le_trans hroom.1 ok.2.2.2.2.2.2.2.1
  have hr2 := Nat.le_trans hroom.2 ok.2.2.2.2.2.2.2.2.1
  rcases hl with ⟨l1, l2, l3, l4, l5, l6⟩ | ⟨host, l1, l2, l3, l4, l5, l6⟩
  · exact sn_after m1 kk ok e1 e2 hE hR hm hll (va_runI (n := n) (b := ad cx.1 b) (As := av.map (cvv cx.1)) ⟨ok.1, ok.2.1, ok.2.2.1, ok.2.2.2.1, ok.2.2.2.2.1⟩ (hc.2 h x h1 e1)
      (cwI n ok.2.2.2.2.1 (good_wsy l3) hw1 rfl rfl (ok.2.2.2.2.1 _ l2) (ok.2.2.2.2.1 _ l1) (ok.2.2.2.2.1 _ hi) hini ⟨l4, l5, l6⟩ ⟨hr1, hr2⟩) ⟨wd_blind _ _ _, fun U hU hW => ⟨rfl, wd_now ok hR U hU hW⟩⟩ rfl (by rw [List.length_map]; exact hn) hll.1 rfl (rest_room rfl hrest) d (room_call m1 kk e1 e2 hR hm))
  · exact sn_after m1 kk ok e1 e2 hE hR hm hll (va_runIN (n := n) (host := host) (b := ad cx.1 b) (As := av.map (cvv cx.1)) ⟨ok.1, ok.2.1, ok.2.2.1, ok.2.2.2.1, ok.2.2.2.2.1⟩ (hc.2 h x h1 e1)
      ⟨va_cnB n ok.2.2.2.2.1 (good_wsy l3) hw1 rfl rfl (ok.2.2.2.2.2.2.2.2.2.2.1.2.1.2.2.1 _ _ _ _ l1) (ok.2.2.2.2.1 _ l2) ⟨l4, l5, l6⟩ ⟨hr1, hr2⟩, hini, ok.2.2.2.2.1 _ hi⟩ ⟨wd_blind _ _ _, fun U hU hW => ⟨rfl, wd_now ok hR U hU hW⟩⟩ rfl (by rw [List.length_map]; exact hn) hll.1 rfl (rest_room rfl hrest) d (room_call m1 kk e1 e2 hR hm))
theorem sn_objInit {idx c : Nat} (h1 : Cond.methodLink y.1 idx Lib.objectInit ∈ gws) (h2 : Cond.instanceMethod Lib.objectInit ∈ gws) (h3 : Cond.code Lib.objectInit ⟨#[0xb1]⟩ 1 none ∈ gws) (d : decode y.2.2.1 pc = .ok (.invokespecial idx, 3)) (hrest : Nat.ble ((st.map lvsz).sum) 8 = true) (hroom : 1 ≤ y.2.2.2.2.2.1 ∧ 20 ≤ y.2.2.2.2.2.2) {o : Option Nat} (k : Sn cx y enc (pc + 3) ls st F) : Sn cx y enc pc ls (vA o :: st) (mCk c o F) :=
  ⟨mono_ck k.1, fun ok h r h' hF hE H locs lsA hR hm hll => by
    obtain ⟨b, hb, hkb, e1⟩ := ck_inv hF
    subst hb
    have hrr := rest_room (g := cx.1) (f := F0 cx.2.2.2.2.2.1 pc lsA []) rfl hrest
    exact W.objInit ok.1 ok.2.1 ok.2.2.2.1 (ok.2.2.2.2.1 _ h1) (ok.2.2.2.2.1 _ h2) (ok.2.2.2.2.1 _ h3) rfl (by rw [ok.2.2.1]; exact hll.1) rfl d (Nat.le_trans hroom.1 ok.2.2.2.2.2.2.2.1) (Nat.le_trans (Nat.add_le_add_right hrr 12) (Nat.le_trans hroom.2 ok.2.2.2.2.2.2.2.2.1)) (k.2 ok h r h' e1 hE H locs lsA hR hm hll)⟩
theorem sn_ldcS {idx i : Nat} {tx : String} (hi : sTx[i]? = some (y.1, idx, tx)) (hi16 : i < 16) (d : decode y.2.2.1 pc = .ok (.ldc idx, 2)) (k : Sn cx y enc (pc + 2) ls (vA (some (3 + i)) :: st) F) : Sn cx y enc pc ls st F :=
  ⟨k.1, fun ok h r h' hF hE H locs lsA hR hm hll => by
    have hZ := ok.2.2.2.2.2.2.2.2.2.2.1.2.2.2.2.2.2.2.1 i _ _ _ hi
    have K := k.2 ok h r h' hF hE H locs lsA hR hm hll
    have hadd : ad cx.1 (3 + i) = gO cx.1 (3 + i) := if_pos (by omega)
    refine va_ldcS ok.1 ok.2.1 ok.2.2.2.1 hZ d ?_
    rw [← hadd]
    exact K⟩
end SNC
