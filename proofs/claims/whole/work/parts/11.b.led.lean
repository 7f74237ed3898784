/-! ===== led of the class: answers or throws ===== -/
noncomputable def mThr (h1 : Hp) : Mo Int32 := fun h => @ite _ (h = h1) (Classical.propDecidable _) (some (-1, hNew h (0, 99))) none
theorem thr_inv {h1 h : Hp} {z : Int32 × Hp} (e : mThr h1 h = some z) : h = h1 ∧ z = (-1, hNew h1 (0, 99)) := by
  unfold mThr at e
  by_cases hc : h = h1
  · rw [if_pos hc] at e
    cases e
    exact ⟨hc, by rw [hc]⟩
  · rw [if_neg hc] at e; cases e
theorem thr_at (h1 : Hp) : mThr h1 h1 = some (-1, hNew h1 (0, 99)) := by
  unfold mThr
  rw [if_pos rfl]
theorem mono_thr {h1 : Hp} : Mono (mThr h1) := fun h r h' e => by
  obtain ⟨e0, e1⟩ := thr_inv e
  subst e0
  cases e1
  exact ⟨[(0, 99)], rfl⟩
theorem mono_exc : Mono mExc := fun h r h' e => by
  unfold mExc at e
  cases e
  exact ⟨[(20, 6)], rfl⟩
theorem mono_getA {c k : Nat} {o : Option Nat} : Mono (mGetA c k o) := fun h r h' e => by
  cases o with
  | none => cases e
  | some a =>
    unfold mGetA at e
    dsimp only at e
    split at e
    · cases e; exact ⟨[], (List.append_nil _).symm⟩
    · cases e
theorem mono_led (c0 : CX) (o : Option Nat) (f i : Int32) : Mono (f_X10_led o f i) := by
  unfold f_X10_led
  exact mono_bd mono_getA (fun r1 => mono_bd ((c_X0_fieldAt c0.1 r1 f).1 c0) (fun r2 => mono_ite (mono_rt _) ((c_X2_powerOfRank c0.1 r2 i).1 c0)))
def g24 (T : Mo Int32) (r : Int32) : Mo Int32 := if r ≥ 0 then mRt r else T
theorem led_eq (T : Mo Int32) (o : Option Nat) (f i : Int32) : mBd (f_X10_led o f i) (g24 T) = mBd (mGetA 8 8 o) (fun r1 => mBd (mCk 0 r1 (f_X0_fieldAt r1 f)) (fun r2 => if r2 = none then g24 T (-1) else mBd (mCk 2 r2 (f_X2_powerOfRank r2 i)) (fun r => g24 T r))) := by
  unfold f_X10_led
  rw [mBd_assoc]
  refine congrArg (mBd (mGetA 8 8 o)) (funext fun r1 => ?_)
  rw [mBd_assoc]
  refine congrArg (mBd (mCk 0 r1 (f_X0_fieldAt r1 f))) (funext fun r2 => ?_)
  by_cases hc : r2 = none
  · rw [if_pos hc, if_pos hc]; rfl
  · rw [if_neg hc, if_neg hc]
set_option maxRecDepth 100000 in
theorem s_X10_led {cx : CX} {T : Mo Int32} (ht : ∀ ls, Sn cx m_X10_led eI 29 ls [] T) (o : Option Nat) (f i : Int32) : Sn cx m_X10_led eI 0 [(0, vA o), (1, vI f), (2, vI i)] [] (mBd (f_X10_led o f i) (g24 T)) := by
  rw [led_eq]
  have h24 : ∀ r, Sn cx m_X10_led eI 24 [(4, vI r)] [] (g24 T r) := by
    intro r
    unfold g24
    refine sn_iload (y := m_X10_led) (pc := 24) dX10_led_24 rfl ?_
    refine sn_if_ge (y := m_X10_led) (pc := 26) (tgt := 40) dX10_led_26 (by decide) (fun _ => ?_) (fun _ => ?_)
    · refine sn_iload (y := m_X10_led) (pc := 40) dX10_led_40 rfl ?_
      exact sn_ireturn rfl dX10_led_42
    · exact ht _
  refine sn_aload_n (y := m_X10_led) (pc := 0) dX10_led_0 rfl ?_
  refine sn_getA (y := m_X10_led) (pc := 1) ca_8 rfl fk_X10_53 (fun _ _ _ => rfl) dX10_led_1 (fun r1 => ?_)
  refine sn_iload_n (y := m_X10_led) (pc := 4) dX10_led_4 rfl ?_
  refine sn_invV (y := m_X10_led) (pc := 5) ca_0 (av := [vI f]) (o := r1) (st := []) dX10_led_5 lk_X10_111 im_X0_fieldAt se_X0_fieldAt rfl rfl rfl rfl ⟨by decide, by decide⟩ (c_X0_fieldAt cx.1 r1 f) (fun r2 => ?_)
  refine sn_astore_n (y := m_X10_led) (pc := 8) dX10_led_8 rfl ?_
  refine sn_aload_n (y := m_X10_led) (pc := 9) dX10_led_9 rfl ?_
  refine sn_ifnonnull (y := m_X10_led) (pc := 10) (tgt := 17) dX10_led_10 (by decide) ?_ ?_
  · refine sn_iconst (y := m_X10_led) (pc := 13) dX10_led_13 kc_iconst_m1 ?_
    refine sn_goto (y := m_X10_led) (pc := 14) (tgt := 22) dX10_led_14 (by decide) ?_
    refine sn_istore (y := m_X10_led) (pc := 22) dX10_led_22 rfl ?_
    exact sn_sub rfl (h24 (-1))
  · refine sn_aload_n (y := m_X10_led) (pc := 17) dX10_led_17 rfl ?_
    refine sn_iload_n (y := m_X10_led) (pc := 18) dX10_led_18 rfl ?_
    refine sn_invV (y := m_X10_led) (pc := 19) ca_2 (av := [vI i]) (o := r2) (st := []) dX10_led_19 lk_X10_303 ld_w3 ld_w4 rfl rfl rfl rfl ⟨by decide, by decide⟩ (c_X2_powerOfRank cx.1 r2 i) (fun r => ?_)
    refine sn_istore (y := m_X10_led) (pc := 22) dX10_led_22 rfl ?_
    exact sn_sub rfl (h24 r)
/-- the throw itself, where the heap is h1 -/
theorem s_thr {cx : CX} {h1 : Hp} {Qc : Array Value → State → Outcome → State → Prop} {XC : String → State → State → Prop} {mc ms : Nat} (hl : cx.1.1.stackTraces = false) (hcs : ld_Nw cx.2.2.2.2.1) (htab : ∀ x ∈ cx.2.2.2.2.2.2.2.2.2.1.exceptionTable.toList, False)
    (hQ : cx.2.2.2.2.2.2.2.2.2.2.1 = vx_MQ cx.2.2.2.2.2.2.2.1 Qc XC cx.2.2.2.2.2.2.1 cx.2.2.2.2.1 mc ms (gA cx.1))
    (hX : ∀ (H : Heap) (locs : List Loc) (t : State), Rdy cx h1 H locs → t.heap.size = H.size + 1 → (∀ q : Nat, q < H.size → t.heap[q]? = H[q]?) → XC ld_E cx.2.2.2.2.1 t)
    (hc : h1.1.length - cx.2.2.2.2.2.2.2.2.2.2.2.1 + 1 ≤ mc ∧ h1.1.length - cx.2.2.2.2.2.2.2.2.2.2.2.1 + 1 ≤ cx.2.2.2.1.cells)
    (hs : hsz h1 - cx.2.2.2.2.2.2.2.2.2.2.2.2 + 6 ≤ ms ∧ hsz h1 - cx.2.2.2.2.2.2.2.2.2.2.2.2 + 6 ≤ cx.2.2.2.1.slots) (ls : List (Nat × LV)) : Sn cx m_X10_led eI 29 ls [] (mThr h1) := by
  refine ⟨mono_thr, fun ok h r h' hF hE H locs lsA hR hm hll => ?_⟩
  obtain ⟨e0, -⟩ := thr_inv hF
  subst e0
  have hst := ok.2.2.2.2.2.2.2.2.2.2.1
  have hfr : 6 ≤ cx.2.2.2.1.frames := ok.2.2.2.2.2.2.2.1
  have hlo : 121 ≤ cx.2.2.2.1.locals := ok.2.2.2.2.2.2.2.2.1
  unfold Wc
  rw [hQ]
  refine ld_make (sa := gO cx.1 (3 + 2)) (A := gA cx.1) ok.1 ok.2.1 hl ok.2.2.2.1 (ok.2.2.2.2.1 _ ld_k1) (ok.2.2.2.2.1 _ ld_k2) (hst.2.2.2.2.2.2.2.1 2 _ _ _ rfl)
    (vx_hat (fun w hw => ok.2.2.2.2.1 _ (ld_gws w hw)) ld_bad (fun w hw => va_Nw.use (ld_bo w hw) (hcs w hw))) ld_ot hst.2.2.2.2.2.2.2.2.1 hst.2.2.2.2.2.2.2.2.2 hR.2.1 (hll.1.trans ok.2.2.1.symm) dX10_led_29 dX10_led_32 dX10_led_33 dX10_led_36
    (Nat.lt_of_lt_of_le (Nat.lt_of_succ_le (Nat.le_refl 6)) hfr) (Nat.le_trans (Nat.le_of_ble_eq_true rfl) hlo) hc.2 hs.2 (fun q ce H1 hz ho hce hcv hcl => ?_)
  exact vx_athrow ok.1 ok.2.1 dX10_led_39 (vx_out (fun x hx => (htab x hx).elim) ok.2.2.2.2.2.1 hce hcv hcl (fun t ht _ => hX H locs t hR (by rw [ht]; exact hz) (fun x hx => by rw [ht]; exact ho x hx)) hR.2.1.2.2 hc.1 hs.1)
def ledH (r : Int32) (h1 : Hp) : Hp := if r < 0 then hNew h1 (20, 6) else h1
def ld_P (g : Gl) (h : Hp) (av : List LV) : Array Value → State → Prop := va_Pc (av.map (cvv g)) (fun U => Wd g h U ∧ ld_Nw U)
def ld_Q (g : Gl) (r : Int32) (h1 : Hp) : Array Value → State → Outcome → State → Prop := fun a st o t => ¬ r < 0 ∧ Qr g eI r h1 a st o t
def ld_X (g : Gl) (r : Int32) (h1 : Hp) : String → State → State → Prop := fun E st t => E = ld_E ∧ r < 0 ∧ wr g (hNew h1 (20, 6)) t.heap ∧ va_F (gA g) st t
theorem ld_blind (g : Gl) (h : Hp) (av : List LV) : FrameBlind (ld_P g h av) := fun a U fr mk q => ⟨q.1, ⟨stw_same rfl q.2.1.1, q.2.1.2⟩, ld_Nw.same (u := U) (U := U.calling fr mk a) rfl q.2.2⟩
set_option maxHeartbeats 2000000 in
theorem x_X10_led {g : Gl} (hl : g.1.stackTraces = false) {o : Option Nat} {f i : Int32} {h h1 : Hp} {r : Int32} (e : f_X10_led o f i h = some (r, h1)) :
    vx_Met g.1 yX10_led (wsy m_X10_led) { frames := 6, cells := (ledH r h1).1.length - h.1.length, slots := hsz (ledH r h1) - hsz h, locals := 121 } (ld_P g h [vA o, vI f, vI i]) (ld_Q g r h1) (ld_X g r h1) ((ledH r h1).1.length - h.1.length) (hsz (ledH r h1) - hsz h) (gA g) := by
  generalize hmc : (ledH r h1).1.length - h.1.length = mc
  generalize hms : hsz (ledH r h1) - hsz h = ms
  refine vx_ofW (cc := cX10_led) (maxL := 5) (ret := some .int) (by decide +kernel) rfl ?_
  intro p e9 s m args below meth c s₁ B hml htab hv
  obtain ⟨ha, ⟨hst, hg, hB, hw⟩, hcs⟩ := hv
  subst ha
  have hts0 := atoms_spec (ws := wsy m_X10_led) B.pre
  generalize hcx : ((g, p, e9, (headSpec (wsy m_X10_led) { frames := 6, cells := mc, slots := ms, locals := 121 }).room, s, m, ([vA o, vI f, vI i].map (cvv g)).toArray, below, meth, c, vx_MQ below (ld_Q g r h1) (ld_X g r h1) ([vA o, vI f, vI i].map (cvv g)).toArray s mc ms (gA g), h.1.length, hsz h) : CX) = cx
  have hcx1 : cx.1 = g := by rw [← hcx]
  have ok : Okc cx m_X10_led := by
    rw [← hcx]
    exact ⟨B.exec, B.bytes, hml, findClass_of_methodNamed B.named, fun w hw => hts0 w (List.mem_cons_of_mem _ hw), B.notSynchronized, B.returns, Nat.le_refl _, Nat.le_refl _, fun hq => (name_of_methodNamed B.named B.method).1.trans hq, hst, hg, hB⟩
  have hmo := (mono_led cx o f i).len e
  have h64 : 64 ≤ h.1.length := hw.2.2.1
  have hRs : Rdy cx h s.heap [] := by
    rw [← hcx]
    exact ⟨hw, va_S.rf, Nat.le_refl _, Nat.le_refl _⟩
  have hent := lv_entry ([vA o, vI f, vI i].map (cvv g)) (n := 5) (by rw [lg_sl_len]; exact Nat.le_of_ble_eq_true rfl)
  rw [lg_entry_eq]
  generalize (lg_sl ([vA o, vI f, vI i].map (cvv g)) ++ List.replicate (5 - (lg_sl ([vA o, vI f, vI i].map (cvv g))).length) Slot.unset).toArray = ls at hent ⊢
  rw [argl_eq] at hent
  have hlv : lv_has ls 5 (cvl cx (argl 0 [vA o, vI f, vI i])) := by
    unfold cvl
    rw [hcx1]
    exact hent
  have hfin : ∃ (T : Mo Int32) (r' : Int32) (h' : Hp), mBd (f_X10_led o f i) (g24 T) h = some (r', h') ∧ Endc cx m_X10_led eI r' h' ∧ Rm cx h' ∧ ∀ ls, Sn cx m_X10_led eI 29 ls [] T := by
    by_cases hr : r < 0
    · have eL : ledH r h1 = hNew h1 (20, 6) := if_pos hr
      rw [eL, hNew_len] at hmc
      rw [eL, hNew_sz] at hms
      have k1 : ksz (20, 6) = 6 := rfl
      have k2 : ksz (0, 99) = 0 := rfl
      refine ⟨mThr h1, -1, hNew h1 (0, 99), ?_, ?_, ?_, ?_⟩
      · rw [bd_some e]
        unfold g24
        rw [if_neg (fun q => absurd hr (Int32.not_lt.mpr q))]
        exact thr_at h1
      · intro pc H locs lsA hd hn hR
        obtain ⟨w1, -⟩ := hR
        have h9 := w1.2.2.2.2 h1.1.length (0, 99) (by omega) (hNew_kd h1 (0, 99)) (by decide)
        obtain ⟨r9, e9, -⟩ := h9
        have e8 : vwCl[99]? = none := rfl
        exact absurd (e8.symm.trans e9) (fun q => nomatch q)
      · rw [← hcx]
        refine ⟨?_, ?_⟩
        · show (hNew h1 (0, 99)).1.length - h.1.length ≤ mc
          rw [hNew_len]; omega
        · show hsz (hNew h1 (0, 99)) - hsz h ≤ ms
          rw [hNew_sz]; omega
      · refine s_thr (Qc := ld_Q g r h1) (XC := ld_X g r h1) (mc := mc) (ms := ms) (by rw [hcx1]; exact hl) (by rw [← hcx]; exact hcs) (by rw [← hcx]; exact htab) (by rw [← hcx]) (fun H locs t hR hz ho => ?_) ?_ ?_
        · rw [← hcx] at hR ⊢
          refine ⟨rfl, hr, wr_push hR.1 hz ho (fun q => absurd q (by decide)), ?_, fun q h1 h2 => ?_⟩
          · have := hR.2.1.1
            show s.heap.size ≤ t.heap.size
            have h3 : s.heap.size ≤ H.size := this
            omega
          · have h3 : s.heap.size ≤ H.size := hR.2.1.1
            have h4 : q < s.heap.size := h1
            exact (ho q (by omega)).trans (hR.2.1.2.1 q h1 h2)
        · rw [← hcx]
          show h1.1.length - h.1.length + 1 ≤ mc ∧ h1.1.length - h.1.length + 1 ≤ mc
          omega
        · rw [← hcx]
          show hsz h1 - hsz h + 6 ≤ ms ∧ hsz h1 - hsz h + 6 ≤ ms
          omega
    · have eL : ledH r h1 = h1 := if_neg hr
      rw [eL] at hmc hms
      refine ⟨mBad, r, h1, ?_, ?_, ?_, fun ls => sn_bad⟩
      · rw [bd_some e]
        unfold g24
        rw [if_pos (Int32.not_lt.mp hr)]
        rfl
      · rw [← hcx]
        intro pc H locs lsA hd hn hR
        obtain ⟨w1, w2, -, -⟩ := hR
        show W p g.1 e9 _ s m _ below meth c H locs (h1.1.length - h.1.length) (hsz h1 - hsz h) (vx_MQ below (ld_Q g r h1) (ld_X g r h1) ([vA o, vI f, vI i].map (cvv g)).toArray s mc ms (gA g)) (F0 m pc lsA [.int r])
        rw [← hmc, ← hms]
        exact vx_ret (W.iret B.exec B.bytes B.returns (fun t ht _ => ⟨hr, rfl, by rw [ht]; exact w1, w2.F ht⟩) w2.2.2 hd B.notSynchronized)
      · rw [← hcx]
        refine ⟨?_, ?_⟩
        · show h1.1.length - h.1.length ≤ mc
          omega
        · show hsz h1 - hsz h ≤ ms
          omega
  obtain ⟨T, r', h', e1, hE, hm, ht⟩ := hfin
  have hK := (s_X10_led ht o f i).2 ok h r' h' e1 hE s.heap [] ls hRs hm hlv
  rw [← hcx] at hK
  unfold Wc at hK
  have q1 : h.1.length - h.1.length = 0 := Nat.sub_self _
  have q2 : hsz h - hsz h = 0 := Nat.sub_self _
  rw [show h.1.length - (_ : CX).2.2.2.2.2.2.2.2.2.2.2.1 = 0 from q1, show hsz h - (_ : CX).2.2.2.2.2.2.2.2.2.2.2.2 = 0 from q2] at hK
  exact hK
