/-! ===== led of the law: the call that may throw, caught ===== -/
theorem met_ofWH {y : MethodName} {ws ws' : List Cond} {rm : Room} {Pc : Array Value → State → Prop} {Qc : Array Value → State → Outcome → State → Prop} {l : Launch} {mc ms : Nat} {free : Addr → Prop} {cc : ByteArray} {maxL : Nat} {ret : Option FieldType} {hh : List (Nat × Nat × Nat × Nat)}
    (hy : plainName y.cls = true) (hw : ws = Cond.codeWith y cc maxL ret hh :: ws')
    (body : ∀ p e s m args below meth c s₁, BodyLoose p l y (headSpec ws rm) cc maxL ret e s m args below meth c s₁ → c.maxLocals = maxL → Pc args s →
      W p l e (headSpec ws rm).room s m args below meth c s.heap [] 0 0 (MQ below Qc args s mc ms free) (entryFrame m args maxL)) : Met l y ws rm Pc Qc mc ms free := by
  refine MetFree.of_bodyS (code := cc) (maxLocals := maxL) (ret := ret) hy ?_ ?_
  · intro args s m h hn
    obtain ⟨m9, meth, c, hn9, h1, h2, h3, h4, -, h5, h6, -⟩ := Cond.codeWith_spec (atoms_spec (ws := ws) h _ (by rw [hw]; exact List.mem_cons_self))
    cases hn.symm.trans hn9
    exact ⟨meth, c, h1, h2, h3, h4, h5, h6⟩
  · intro p e s m args below meth c s₁ B hml hP _
    have hh0 : s₁.heap = s.heap := by rw [B.state]; rfl
    obtain ⟨t, a1, o, b1, b2, b3⟩ := body p e s m args below meth c s₁ B hml hP s₁ hh0 (Stand.of_body B)
    exact ⟨t, o, a1, b1, b2, ⟨b3.1, b3.2⟩⟩
theorem rdy_after {cx : CX} {h hh : Hp} {H : Heap} {locs L : List Loc} {st₀ t T' : State} (hR : Rdy cx h H locs) (h0 : st₀.heap = H) (hL : ∀ q ∈ L, gA cx.1 q.base) (z1 : T'.heap = t.heap) (hw : wr cx.1 hh t.heap) (hf : va_F (gA cx.1) st₀ t) (h1 : h.1.length ≤ hh.1.length) (h2 : hsz h ≤ hsz hh) : Rdy cx hh T'.heap (locs ++ L) := by
  obtain ⟨r1, r2, r3, r4⟩ := hR
  rw [va_F, h0] at hf
  rw [z1]
  refine ⟨hw, ⟨Nat.le_trans r2.1 hf.1, fun q q1 q2 => (hf.2 q (Nat.lt_of_lt_of_le q1 r2.1) q2).trans (r2.2.1 q q1 q2), fun q hq => ?_⟩, Nat.le_trans r3 h1, Nat.le_trans r4 h2⟩
  rcases List.mem_append.mp hq with z | z
  · exact r2.2.2 q z
  · exact hL q z
set_option maxHeartbeats 2000000 in
theorem sn_callX {cx : CX} {α : Type} {enc : α → Option LV} (hl : cx.1.1.stackTraces = false) (hcs : ld_Nw cx.2.2.2.2.1) (htab : cx.2.2.2.2.2.2.2.2.2.1.exceptionTable.toList = tableOf [(0, 10, 13, 13)]) {ls : List (Nat × LV)} {st : List LV} {o : Option Nat} {a b : Int32} {K1 : Mo α} {K2 : Int32 → Mo α} (hrest : Nat.ble ((st.map lvsz).sum) 8 = true)
    (k1 : Sn cx m_L_led enc 15 [] [] K1) (k2 : ∀ r, Sn cx m_L_led enc 8 ls (vI r :: st) (K2 r)) :
    Sn cx m_L_led enc 5 ls (vI b :: vI a :: vA o :: st) (mBd (mCk 8 o (f_X10_led o a b)) (fun r => if r < 0 then mBd mExc (fun _ => K1) else K2 r)) := by
  have m1 : Mono (mCk 8 o (f_X10_led o a b)) := mono_ck (mono_led cx o a b)
  refine ⟨mono_bd m1 (fun r => mono_ite (mono_bd mono_exc (fun _ => k1.1)) (k2 r).1), fun ok h r h' hF hE H locs lsA hR hm hll => ?_⟩
  obtain ⟨x, h1, e1, e2⟩ := bd_inv hF
  obtain ⟨v, hb, hkb, e3⟩ := ck_inv e1
  subst hb
  obtain ⟨-, hat⟩ := ts_obj ca_8 ok.2.2.2.2.2.2.2.2.2.2.2.1 hR.1 hkb
  obtain ⟨l1, l2, l3, l4, l5, l6⟩ := lk_L_7
  have hlen := m1.len e1
  have e4 : (if x < 0 then mBd mExc (fun _ => K1) else K2 x) h1 = some (r, h') := e2
  have hlenL : h1.1.length ≤ (ledH x h1).1.length ∧ hsz h1 ≤ hsz (ledH x h1) ∧ (ledH x h1).1.length ≤ h'.1.length ∧ hsz (ledH x h1) ≤ hsz h' := by
    by_cases hx : x < 0
    · rw [if_pos hx] at e4
      have e5 : K1 (hNew h1 (20, 6)) = some (r, h') := e4
      have := k1.1.len e5
      rw [show ledH x h1 = hNew h1 (20, 6) from if_pos hx]
      rw [hNew_len, hNew_sz] at this ⊢
      omega
    · rw [if_neg hx] at e4
      have := (k2 x).1.len e4
      rw [show ledH x h1 = h1 from if_neg hx]
      omega
  have hfr : 7 ≤ cx.2.2.2.1.frames := ok.2.2.2.2.2.2.2.1
  have hlo : 145 ≤ cx.2.2.2.1.locals := ok.2.2.2.2.2.2.2.2.1
  have hB3 := hR.2.2.1
  have hB4 := hR.2.2.2
  obtain ⟨hm1, hm2⟩ := id hm
  have hr : vx_Run cx.2.1 cx.1.1 cx.2.2.1 cx.2.2.2.1 cx.2.2.2.2.1 cx.2.2.2.2.2.1 cx.2.2.2.2.2.2.1 cx.2.2.2.2.2.2.2.1 cx.2.2.2.2.2.2.2.2.1 cx.2.2.2.2.2.2.2.2.2.1 H locs (h.1.length - cx.2.2.2.2.2.2.2.2.2.2.2.1) (hsz h - cx.2.2.2.2.2.2.2.2.2.2.2.2) ((ledH x h1).1.length - h.1.length) (hsz (ledH x h1) - hsz h)
      (F0 cx.2.2.2.2.2.1 5 lsA (([vI a, vI b].map (cvv cx.1)).reverse ++ Value.ref (ad cx.1 v) :: st.map (cvv cx.1))) (st.map (cvv cx.1)) (ld_Q cx.1 x h1 (Value.ref (ad cx.1 v) :: [vI a, vI b].map (cvv cx.1)).toArray) (ld_X cx.1 x h1) (gA cx.1) := by
    refine vx_runV (n := 2) (C := RX10) (b := ad cx.1 v) (As := [vI a, vI b].map (cvv cx.1)) ⟨ok.1, ok.2.1, ok.2.2.1, ok.2.2.2.1, ok.2.2.2.2.1⟩ (x_X10_led hl e3)
      (cwV 2 ok.2.2.2.2.1 (fun w hw => ?_) rfl rfl rfl ⟨rfl, l4, l5, l6⟩ ⟨?_, ?_⟩) ⟨ld_blind _ _ _, va_recv ok.2.2.2.2.2.2.2.2.2.2.1.1 (va_P1 hat) ca_8.1 (q0 := 0) rfl, fun U hU hW => ⟨rfl, wd_now ok hR U hU hW, ld_Nw.warm hW hcs⟩⟩ rfl rfl hll.1 rfl (rest_room rfl hrest) dL_led_5 ⟨?_, ?_⟩
    · rcases List.mem_append.mp hw with z | z
      · simp only [List.mem_cons, List.not_mem_nil, or_false] at z
        rcases z with z | z | z | z
        · rw [z]; exact good_gws _ l1
        · rw [z]; exact good_gws _ ld_w7
        · rw [z]; exact good_gws _ ld_w8
        · rw [z]; exact good_gws _ l2
      · exact good_wsy l3 w z
    · exact hfr
    · exact hlo
    · omega
    · omega
  intro T hT X
  rcases hr T hT X with ⟨v9, st₀, t, T', L, h0, X', hL, z1, z2, ⟨hn, hv, hw, hf⟩, stp⟩ | ⟨q, st₀, t, T', L, E, ce, h0, X', hL, z1, z2, ⟨hE9, hneg, hw, hf⟩, hce, hcv, hcl, stp⟩
  · rw [show ledH x h1 = h1 from if_neg hn] at X'
    rw [if_neg hn] at e4
    have hv1 : v9 = (eI x).map (cvv cx.1) := by cases hv; rfl
    have K := (k2 x).2 ok h1 r h' e4 hE T'.heap (locs ++ L) lsA (rdy_after hR h0 hL z1 hw hf hlen.1 hlen.2) hm hll
    unfold Wc at K
    rw [show h1.1.length - cx.2.2.2.2.2.2.2.2.2.2.2.1 = h.1.length - cx.2.2.2.2.2.2.2.2.2.2.2.1 + (h1.1.length - h.1.length) by omega, show hsz h1 - cx.2.2.2.2.2.2.2.2.2.2.2.2 = hsz h - cx.2.2.2.2.2.2.2.2.2.2.2.2 + (hsz h1 - hsz h) by omega] at K
    obtain ⟨t2, a1, b1⟩ := K T' rfl X'
    refine ⟨t2, stp t2 ?_, b1⟩
    rw [hv1]
    exact a1
  · rw [show ledH x h1 = hNew h1 (20, 6) from if_pos hneg] at X'
    rw [if_pos hneg] at e4
    have e5 : K1 (hNew h1 (20, 6)) = some (r, h') := e4
    subst hE9
    have kz : ksz (20, 6) = 6 := rfl
    have hRx : Rdy cx (hNew h1 (20, 6)) T'.heap (locs ++ L) := rdy_after hR h0 hL z1 hw hf (by rw [hNew_len]; omega) (by rw [hNew_sz]; omega)
    have hcat : vx_W cx.2.1 cx.1.1 cx.2.2.1 cx.2.2.2.1 cx.2.2.2.2.1 cx.2.2.2.2.2.1 cx.2.2.2.2.2.2.1 cx.2.2.2.2.2.2.2.1 cx.2.2.2.2.2.2.2.2.1 cx.2.2.2.2.2.2.2.2.2.1 T'.heap (locs ++ L) (h.1.length - cx.2.2.2.2.2.2.2.2.2.2.2.1 + ((hNew h1 (20, 6)).1.length - h.1.length)) (hsz h - cx.2.2.2.2.2.2.2.2.2.2.2.2 + (hsz (hNew h1 (20, 6)) - hsz h)) cx.2.2.2.2.2.2.2.2.2.2.1 (F0 cx.2.2.2.2.2.1 5 lsA (st.map (cvv cx.1))) q := by
      refine vx_catch (own := RL) (name := ld_E) (E := ld_E) (ce := ce) ok.2.2.2.1 [] ⟨0, 10, 13, 13⟩ [] htab (fun z hz => nomatch hz) rfl (by decide) (ok.2.2.2.2.1 _ ld_k3) (va_Nw.use rfl (hcs _ List.mem_cons_self)) (by rw [z1]; exact hce) hcv hcl ?_
      refine lv_astore (i := 4) (nL := 5) (lv := []) ok.1 ok.2.1 dL_led_13 ⟨hll.1, hll.2.1, fun q hq => nomatch hq⟩ (by decide) rfl (fun ls' hl' => ?_)
      have K := k1.2 ok _ r h' e5 hE T'.heap (locs ++ L) ls' hRx hm ⟨hl'.1, hl'.2.1, fun q hq => nomatch hq⟩
      unfold Wc at K
      rw [hNew_len, hNew_sz] at K ⊢
      rw [show h1.1.length + 1 - cx.2.2.2.2.2.2.2.2.2.2.2.1 = h.1.length - cx.2.2.2.2.2.2.2.2.2.2.2.1 + (h1.1.length + 1 - h.1.length) by omega, show hsz h1 + ksz (20, 6) - cx.2.2.2.2.2.2.2.2.2.2.2.2 = hsz h - cx.2.2.2.2.2.2.2.2.2.2.2.2 + (hsz h1 + ksz (20, 6) - hsz h) by omega] at K
      exact K
    obtain ⟨t2, a1, b1⟩ := hcat T' rfl X'
    exact ⟨t2, stp.trans a1, b1⟩
theorem s_L_led {cx : CX} (hl : cx.1.1.stackTraces = false) (hcs : ld_Nw cx.2.2.2.2.1) (htab : cx.2.2.2.2.2.2.2.2.2.1.exceptionTable.toList = tableOf [(0, 10, 13, 13)]) (o : Option Nat) (a b : Int32) (q : Option Nat) : Sn cx m_L_led eI 0 [(0, vA o), (1, vI a), (2, vI b), (3, vA q)] [] (f_L_led o a b q) := by
  unfold f_L_led
  refine sn_aload_n (y := m_L_led) (pc := 0) dL_led_0 rfl ?_
  refine sn_iconst (y := m_L_led) (pc := 1) dL_led_1 kc_iconst_0 ?_
  refine sn_aload_n (y := m_L_led) (pc := 2) dL_led_2 rfl ?_
  refine sn_iload_n (y := m_L_led) (pc := 3) dL_led_3 rfl ?_
  refine sn_iload_n (y := m_L_led) (pc := 4) dL_led_4 rfl ?_
  refine sn_callX hl hcs htab rfl ?_ (fun r => ?_)
  · refine sn_iconst (y := m_L_led) (pc := 15) dL_led_15 kc_iconst_1 ?_
    exact sn_ireturn rfl dL_led_16
  · refine sn_i2l (y := m_L_led) (pc := 8) dL_led_8 ?_
    refine sn_lastore (y := m_L_led) (pc := 9) dL_led_9 ?_
    refine sn_goto (y := m_L_led) (pc := 10) (tgt := 17) dL_led_10 (by decide) ?_
    refine sn_iconst (y := m_L_led) (pc := 17) dL_led_17 kc_iconst_0 ?_
    exact sn_ireturn rfl dL_led_18
def ld_ws : List Cond := Cond.codeWith yL_led cL_led 5 (some .int) [(0, 10, 13, 13)] :: gws
theorem mono_stJ {o : Option Nat} {i : Int32} {x : Int64} : Mono (mStJ o i x) := fun h r h' e => by
  cases o with
  | none => cases e
  | some a =>
    unfold mStJ at e
    dsimp only at e
    split at e
    · cases e; exact ⟨[], (List.append_nil _).symm⟩
    · cases e
theorem mono_Lled (c0 : CX) (o : Option Nat) (a b : Int32) (q : Option Nat) : Mono (f_L_led o a b q) := by
  unfold f_L_led
  exact mono_bd (mono_ck (mono_led c0 o a b)) (fun r => mono_ite (mono_bd mono_exc (fun _ => mono_rt _)) (mono_bd mono_stJ (fun _ => mono_rt _)))
set_option maxHeartbeats 2000000 in
theorem x_L_led {g : Gl} (hl : g.1.stackTraces = false) {o : Option Nat} {a b : Int32} {q : Option Nat} {h h1 : Hp} {r : Int32} (e : f_L_led o a b q h = some (r, h1)) :
    Met g.1 yL_led ld_ws { frames := 7, cells := h1.1.length - h.1.length, slots := hsz h1 - hsz h, locals := 145 } (ld_P g h [vA o, vI a, vI b, vA q]) (Qr g eI r h1) (h1.1.length - h.1.length) (hsz h1 - hsz h) (gA g) := by
  refine met_ofWH (cc := cL_led) (maxL := 5) (ret := some .int) (hh := [(0, 10, 13, 13)]) (by decide +kernel) rfl ?_
  intro p e9 s m args below meth c s₁ B hml hv
  obtain ⟨ha, ⟨hst, hg, hB, hw⟩, hcs⟩ := hv
  subst ha
  have hts0 := atoms_spec (ws := ld_ws) B.pre
  have htab : c.exceptionTable.toList = tableOf [(0, 10, 13, 13)] := vx_table (x := yL_led) B (hts0 _ List.mem_cons_self)
  generalize hcx : ((g, p, e9, (headSpec ld_ws { frames := 7, cells := h1.1.length - h.1.length, slots := hsz h1 - hsz h, locals := 145 }).room, s, m, ([vA o, vI a, vI b, vA q].map (cvv g)).toArray, below, meth, c, MQ below (Qr g eI r h1) ([vA o, vI a, vI b, vA q].map (cvv g)).toArray s (h1.1.length - h.1.length) (hsz h1 - hsz h) (gA g), h.1.length, hsz h) : CX) = cx
  have hcx1 : cx.1 = g := by rw [← hcx]
  have ok : Okc cx m_L_led := by
    rw [← hcx]
    exact ⟨B.exec, B.bytes, hml, findClass_of_methodNamed B.named, fun w hw => hts0 w (List.mem_cons_of_mem _ hw), B.notSynchronized, B.returns, Nat.le_refl _, Nat.le_refl _, fun hq => (name_of_methodNamed B.named B.method).1.trans hq, hst, hg, hB⟩
  have hRs : Rdy cx h s.heap [] := by
    rw [← hcx]
    exact ⟨hw, va_S.rf, Nat.le_refl _, Nat.le_refl _⟩
  have hent := lv_entry ([vA o, vI a, vI b, vA q].map (cvv g)) (n := 5) (by rw [lg_sl_len]; exact Nat.le_of_ble_eq_true rfl)
  rw [lg_entry_eq]
  generalize (lg_sl ([vA o, vI a, vI b, vA q].map (cvv g)) ++ List.replicate (5 - (lg_sl ([vA o, vI a, vI b, vA q].map (cvv g))).length) Slot.unset).toArray = ls at hent ⊢
  rw [argl_eq] at hent
  have hlv : lv_has ls 5 (cvl cx (argl 0 [vA o, vI a, vI b, vA q])) := by
    unfold cvl
    rw [hcx1]
    exact hent
  have hE : Endc cx m_L_led eI r h1 := by
    rw [← hcx]
    intro pc H locs lsA hd hn hR
    obtain ⟨w1, w2, -, -⟩ := hR
    show W p g.1 e9 _ s m _ below meth c H locs (h1.1.length - h.1.length) (hsz h1 - hsz h) (MQ below (Qr g eI r h1) ([vA o, vI a, vI b, vA q].map (cvv g)).toArray s (h1.1.length - h.1.length) (hsz h1 - hsz h) (gA g)) (F0 m pc lsA [.int r])
    exact W.iret B.exec B.bytes B.returns (fun t ht _ => ⟨rfl, by rw [ht]; exact w1, w2.F ht⟩) w2.2.2 hd B.notSynchronized
  have hm : Rm cx h1 := by
    rw [← hcx]
    exact ⟨Nat.le_refl _, Nat.le_refl _⟩
  have hK := (s_L_led (cx := cx) (by rw [hcx1]; exact hl) (by rw [← hcx]; exact hcs) (by rw [← hcx]; exact htab) o a b q).2 ok h r h1 e hE s.heap [] ls hRs hm hlv
  rw [← hcx] at hK
  unfold Wc at hK
  have q1 : h.1.length - h.1.length = 0 := Nat.sub_self _
  have q2 : hsz h - hsz h = 0 := Nat.sub_self _
  rw [show h.1.length - (_ : CX).2.2.2.2.2.2.2.2.2.2.2.1 = 0 from q1, show hsz h - (_ : CX).2.2.2.2.2.2.2.2.2.2.2.2 = 0 from q2] at hK
  exact hK
set_option maxHeartbeats 2000000 in
theorem led_ok {cx : CX} (hl : cx.1.1.stackTraces = false) (hcs : ld_Nw cx.2.2.2.2.1) : LedOk cx := by
  intro ls o a b q G kk
  have m1 : Mono (f_L_led o a b q) := mono_Lled cx o a b q
  refine ⟨mono_bd m1 (fun r => (kk r).1), fun ok h r h' hF hE H locs lsA hR hm hll => ?_⟩
  obtain ⟨x, h1, e1, e2⟩ := bd_inv hF
  have hfr : 75 ≤ cx.2.2.2.1.frames := ok.2.2.2.2.2.2.2.1
  have hlo : 3918 ≤ cx.2.2.2.1.locals := ok.2.2.2.2.2.2.2.2.1
  have kk' : ∀ r, Sn cx m_L_law eI (1824 + 3) ls ((eI r).toList ++ []) (G r) := kk
  show Wc cx h H locs (F0 cx.2.2.2.2.2.1 1824 lsA (([vA o, vI a, vI b, vA q].reverse ++ []).map (cvv cx.1)))
  rw [stack_eq]
  refine sn_after (y := m_L_law) (pc := 1824) (ls := ls) (st := []) (enc := eI) (enc2 := eI) m1 kk' ok e1 e2 hE hR hm hll (vx_runSW (n := 4) (hh := [(0, 10, 13, 13)]) (As := [vA o, vI a, vI b, vA q].map (cvv cx.1)) ⟨ok.1, ok.2.1, ok.2.2.1, ok.2.2.2.1, ok.2.2.2.2.1⟩ (x_L_led hl e1)
    (vx_cwSW 4 ok.2.2.2.2.1 (fun w hw => ?_) rfl rfl rfl ⟨by decide, by decide, by decide +kernel⟩ ⟨?_, ?_⟩) ⟨ld_blind _ _ _, fun U hU hW => ⟨rfl, wd_now ok hR U hU hW, ld_Nw.warm hW hcs⟩⟩ rfl rfl hll.1 rfl (rest_room rfl rfl) dL_law_1824 (room_call m1 kk' e1 e2 hR hm))
  · rcases List.mem_append.mp hw with z | z
    · simp only [List.mem_cons, List.not_mem_nil, or_false] at z
      rcases z with z | z | z
      · rw [z]; exact good_gws _ ld_v1
      · rw [z]; exact good_gws _ ld_v2
      · rw [z]; exact good_gws _ ld_v3
    · rcases List.mem_cons.mp z with z1 | z1
      · rw [z1]; exact good_gws _ ld_w9
      · exact good_gws _ z1
  · show 7 + 1 ≤ _
    omega
  · show 8 + (5 + 11) + 145 ≤ _
    omega
