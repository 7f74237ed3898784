/-! ===== led, told, trouble, where, fault ===== -/
section
variable {β : Type} {kw : Nat → Int64} {K : List (Nat × Nat)} {I I' : Nat → Nat → Int32} {J J' : Nat → Nat → Int64} {A : Nat → Nat → Option Nat} {w : WD}
/-- after a call that leaves trouble and place alone -/
theorem Tr.mv {tr : Nat} (h : Tr I w tr) (e : I' 64 11 = I 64 11) (e1 : I' 224 1 = I 224 1) (e2 : I' 224 2 = I 224 2) : Tr I' w tr := ⟨h.1, e.trans h.2.1, e1.trans h.2.2.1, e2.trans h.2.2.2⟩
theorem Core.m0p {v : Int32} (h : Core kw K I J A w) : Core kw K (st2 I 224 0 v) J A w := h.m (by decide)
theorem Tr.m0p {v : Int32} {tr : Nat} (h : Tr I w tr) : Tr (st2 I 224 0 v) w tr := h.mv (st2_na (by decide)) (st2_nk (by decide)) (st2_nk (by decide))
theorem t_ledR {Q : Int32 → Hp → Prop} {a : Int} {b : Int32} (hI : Core kw K I J A w) (ha : -2147483648 ≤ a ∧ a < 2147483648) (q0 : (¬ (0 ≤ a ∧ a < bnf w.2.1) ∨ ledS (bfp w.2.1 a.toNat) (bfn w.2.1 a.toNat) b = none) → Q 0 (K, st2 I 224 0 1, J, A)) (q1 : ∀ x, (0 ≤ a ∧ a < bnf w.2.1) → ledS (bfp w.2.1 a.toNat) (bfn w.2.1 a.toNat) b = some x → Q (zn x) (K, I, J, A)) : wp (f_X13_led_l10 (some 224) (zi a) b 0 1) Q (K, I, J, A) := by
  unfold f_X13_led_l10
  by_cases hf : 0 ≤ a ∧ a < bnf w.2.1
  · obtain ⟨bk, fo, h3, hbk, hBS, hRBC, hfo, hfo2, hRF, hRC⟩ := hI.rfld (show a.toNat < bnf w.2.1 by omega)
    have hpn := hI.ok.1.2 _ (show a.toNat < bnf w.2.1 by omega)
    have h4 := hI.ok.1.1
    have hr := pn_rng hpn
    generalize bfp w.2.1 a.toNat = p at *
    generalize bfn w.2.1 a.toNat = n at *
    refine pf2 (N := p) (fun x acc => 1 ≤ x ∧ acc = zn (cnP p n x) ∧ ∀ y, 1 ≤ y → y < x → (isPw p n y && decide (zn (cnP p n y) = b)) = false) ?_ ?_ (k := 1) (by omega) (by unfold fuel; omega) ⟨by omega, rfl, fun y _ _ => by omega⟩
    · rintro x acc R hx ⟨h1, rfl, hno⟩ hR
      unfold f_X13_led_b10
      refine b_ck hI.m0.1 (b_eq (t_isField hI.m0.1 hI.rb hI.ok ha) ?_)
      rw [inb_t hf, zi_nn hf.1]
      refine wp_ifn (by decide) (r_fld hI.m0.1 h3 hBS hfo (by omega) (b_getIv hRF.1 hRC.1.1 (wp_ifn (ge_f (by omega)) (r_fld hI.m0.1 h3 hBS hfo (by omega) (b_getA hRF.1 hRF.2.1.1 (b_ldI hRF.2.2.1.1 (by omega) (by omega) (r_fld hI.m0.1 h3 hBS hfo (by omega) (b_getIv hRF.1 hRC.1.2.1 ?_))))))))
      have hl := lg_lt hpn.1 h1 hx
      rw [hRC.2.1 x h1 hx, irem_zn (by omega) (by omega)]
      refine wp_rq (by rw [zn0 (by omega)]; omega) (wp_ifq (zn0 (Nat.lt_of_lt_of_le (Nat.mod_lt _ (by omega)) (show n ≤ 2147483648 by omega))) ?_)
      have stepc : cnP p n (x + 1) = cnP p n x + (if 1 ≤ x ∧ isPw p n x = true then 1 else 0) := rfl
      by_cases hp : lg p x % n = 0
      · have hpw : isPw p n x = true := by unfold isPw; simp [hp]
        refine wp_ifp hp ?_
        by_cases he : zn (cnP p n x) = b
        · refine wp_ifn (fun q => q he) (wp_rt (q1 x hf ?_))
          unfold ledS
          rw [fd_some (y := x) (by rw [hpw]; simp [he]) (p - 1) 1 h1 (by omega) (fun y h1 h2 => hno y h1 h2)]
        · refine wp_ifp he (hR _ ⟨by omega, ?_, fun y hy1 hy2 => ?_⟩)
          · rw [zn_succ, stepc, hpw, if_pos ⟨h1, rfl⟩]
          · by_cases hyx : y = x
            · subst hyx; rw [hpw]; simp [he]
            · exact hno y hy1 (by omega)
      · have hpw : isPw p n x = false := by unfold isPw; simp [hp]
        refine wp_ifn hp (hR _ ⟨by omega, ?_, fun y hy1 hy2 => ?_⟩)
        · rw [stepc, hpw, if_neg (by simp)]; rfl
        · by_cases hyx : y = x
          · subst hyx; rw [hpw]; rfl
          · exact hno y hy1 (by omega)
    · rintro acc R ⟨h1, rfl, hno⟩
      unfold f_X13_led_b10
      refine b_ck hI.m0.1 (b_eq (t_isField hI.m0.1 hI.rb hI.ok ha) ?_)
      rw [inb_t hf, zi_nn hf.1]
      refine wp_ifn (by decide) (r_fld hI.m0.1 h3 hBS hfo (by omega) (b_getIv hRF.1 hRC.1.1 (wp_ifp (ge_t (by omega)) (b_putI hI.m0.1 (by decide) (wp_rt (q0 (Or.inr ?_)))))))
      unfold ledS
      rw [fd_none (p - 1) 1 (fun y hy1 hy2 => hno y hy1 (by omega))]
  · show wp (f_X13_led_b10 (some 224) (zi a) b (lq2 _ _) 0 1) Q (K, I, J, A)
    unfold f_X13_led_b10
    refine b_ck hI.m0.1 (b_eq (t_isField hI.m0.1 hI.rb hI.ok ha) ?_)
    rw [inb_f hf]
    exact wp_ifp (by decide) (b_putI hI.m0.1 (by decide) (wp_rt (q0 (Or.inl hf))))
theorem fd_lt {P : Nat → Bool} {x : Nat} : ∀ n k, fd P n k = some x → x < k + n := by
  intro n
  induction n with
  | zero => intro k h; exact absurd h (by unfold fd; simp)
  | succ n ih =>
    intro k h
    unfold fd at h
    by_cases hp : P k = true
    · rw [if_pos hp] at h
      have : k = x := by simpa using h
      omega
    · rw [if_neg hp] at h
      have := ih (k + 1) h
      omega
def PostL (kw : Nat → Int64) (K : List (Nat × Nat)) (w : WD) (tr : Nat) (r r' : Int32) (h : Hp) : Prop := ∃ K' I' J' A', h = (K', I', J', A') ∧ (K' = K ∨ K' = K ++ [(20, 6)]) ∧ I' 224 0 = r ∧ (r = 0 ∨ r = 1) ∧ (r = 0 → J' 235 0 = r'.toInt64) ∧ Core kw K' I' J' A' w ∧ Tr I' w tr
theorem op_led {a : Int} {b : Int32} {tr : Nat} (hI : Core kw K I J A w) (hT : Tr I w tr) (ha : -2147483648 ≤ a ∧ a < 2147483648) : wp (f_L_led (some 64) (zi a) b (some 235)) (fun r h1 => wp (f_X13_led (some 224) (zi a) b) (fun r' h2 => PostL kw K w tr r r' h2) h1) (K, I, J, A) := by
  unfold f_L_led f_X10_led
  have hl := hI.len
  have hnb := hI.nb
  refine b_ck hI.k64 (b_assoc (b_getA hI.k64 hI.a8 (b_assoc (b_ck hI.cbs.1 (b_eq (t_fat hI ha) ?_)))))
  have bad : (¬ (0 ≤ a ∧ a < bnf w.2.1) ∨ ledS (bfp w.2.1 a.toNat) (bfn w.2.1 a.toNat) b = none) → wp (mBd mExc (fun _ => mRt (1 : Int32))) (fun r h1 => wp (f_X13_led (some 224) (zi a) b) (fun r' h2 => PostL kw K w tr r r' h2) h1) (K, I, J, A) := by
    intro hno
    refine b_eq (r := ()) (h' := hNew (K, I, J, A) (20, 6)) rfl (wp_rt ?_)
    have hc : Core kw (K ++ [(20, 6)]) (st1 I K.length (fun _ => 0)) (st1 J K.length (fun _ => 0)) (st1 A K.length (fun _ => none)) w := hI.ga gr_app (fun x hx => by unfold st1; rw [if_neg (by omega)]) (fun x hx _ => by unfold st1; rw [if_neg (by omega)]) (fun x hx => by unfold st1; rw [if_neg (by omega)])
    have hT' : Tr (st1 I K.length (fun _ => 0)) w tr := hT.mv (by unfold st1; rw [if_neg (by omega)]) (by unfold st1; rw [if_neg (by omega)]) (by unfold st1; rw [if_neg (by omega)])
    show wp _ _ (K ++ [(20, 6)], _, _, _)
    unfold f_X13_led
    refine b_putI hc.m0.1 (by decide) (t_ledR hc.m0p ha (fun _ => ?_) (fun x h1 h2 => ?_))
    · exact ⟨_, _, _, _, rfl, Or.inr rfl, st2_at, Or.inr rfl, fun q => absurd q (by decide), hc.m0p.m0p, hT'.m0p.m0p⟩
    · rcases hno with h | h
      · exact absurd h1 h
      · rw [h] at h2; exact absurd h2 (by simp)
  by_cases hf : 0 ≤ a ∧ a < bnf w.2.1
  · rw [atF_t hf]
    obtain ⟨hF, hC, hpn, h4⟩ := hI.fld (show a.toNat < bnf w.2.1 by omega)
    have hr := pn_rng hpn
    refine b_ite (wp_ifn (by simp) (b_ck hF.1 (b_eq (t_powerOfRank hF hC hpn) ?_)))
    cases hl : ledS (bfp w.2.1 a.toNat) (bfn w.2.1 a.toNat) b with
    | none => exact wp_ifp (by decide) (bad (Or.inr hl))
    | some x =>
      have hx : x < 1000 := by
        unfold ledS at hl
        have := fd_lt _ _ hl
        omega
      refine wp_ifn (show ¬ zn x < (0 : Int32) from lt_f (b := 0) (by omega)) ?_
      refine b_stJ (j := 0) hI.sh.2.2.2.2.2.2.2.2.2 (by decide) (by omega) (by omega) (wp_rt ?_)
      have hc : Core kw K I (st2 J 235 0 (zn x).toInt64) A w := hI.ga Gr.rfl' (fun _ _ => rfl) (fun b _ hb => st2_nb hb) (fun _ _ => rfl)
      unfold f_X13_led
      refine b_putI hc.m0.1 (by decide) (t_ledR hc.m0p ha (fun h => ?_) (fun y h1 h2 => ?_))
      · rcases h with h | h
        · exact absurd hf h
        · rw [hl] at h; exact absurd h (by simp)
      · rw [hl] at h2
        obtain rfl : x = y := by simpa using h2
        exact ⟨_, _, _, _, rfl, Or.inl rfl, st2_at, Or.inl rfl, fun _ => st2_at, hc.m0p, hT.m0p⟩
  · rw [atF_f hf]
    exact b_ite (wp_ifp rfl (b_rt (wp_ifp (by decide) (bad (Or.inl hf)))))
/-- a call that changes but the reference's thrown -/
def PostS (kw : Nat → Int64) (K : List (Nat × Nat)) (A : Nat → Nat → Option Nat) (w : WD) (tr : Nat) (h : Hp) : Prop := ∃ I' J', h = (K, I', J', A) ∧ Core kw K I' J' A w ∧ Tr I' w tr
theorem Tr.c {tr : Nat} (h : Tr I w tr) : I 64 11 = zn tr := h.2.1
theorem op_trouble {tr : Nat} (hI : Core kw K I J A w) (hT : Tr I w tr) : Both (f_X10_trouble (some 64)) (f_X13_trouble (some 224)) (PostS kw K A w tr) (K, I, J, A) := by
  unfold Both f_X10_trouble f_X13_trouble
  refine b_getI hI.k64 (wp_rt (b_putI hI.m0.1 (by decide) (b_getI hI.m0.1 (wp_rt ⟨?_, _, _, rfl, hI.m0p, hT.m0p⟩))))
  rw [st2_nk (by decide), hT.2.1, hT.2.2.1]
theorem op_where {tr : Nat} (hI : Core kw K I J A w) (hT : Tr I w tr) : Both (f_X10_where (some 64)) (f_X13_where (some 224)) (PostS kw K A w tr) (K, I, J, A) := by
  unfold Both f_X10_where
  have h2 := hT.2.2.2
  refine b_getIv hI.k64 hT.2.1 (wp_ifq (not_congr (zn_inj (b := 4) (by have := hT.1; omega) (by omega))) ?_)
  by_cases h4 : tr = 4
  · rw [if_pos h4] at h2
    refine wp_ifn (fun q => q h4) (b_getI hI.k64 (wp_rt ?_))
    unfold f_X13_where
    refine b_putI hI.m0.1 (by decide) (b_getI hI.m0.1 (wp_rt ⟨?_, _, _, rfl, hI.m0p, hT.m0p⟩))
    rw [st2_nk (by decide), h2]
    exact hI.2.2.2.2.2.2.1.symm
  · rw [if_neg h4] at h2
    refine wp_ifp h4 (wp_rt ?_)
    unfold f_X13_where
    refine b_putI hI.m0.1 (by decide) (b_getI hI.m0.1 (wp_rt ⟨?_, _, _, rfl, hI.m0p, hT.m0p⟩))
    rw [st2_nk (by decide), h2]
theorem op_fault {tr : Nat} (hI : Core kw K I J A w) (hT : Tr I w tr) : Both (f_X10_fault (some 64)) (f_X13_fault (some 224)) (PostS kw K A w tr) (K, I, J, A) := by
  unfold Both f_X10_fault f_X13_fault
  refine b_getI hI.k64 (wp_rt (b_putI hI.m0.1 (by decide) (b_getI hI.m0.1 (wp_rt ⟨?_, _, _, rfl, hI.m0p, hT.m0p⟩))))
  rw [st2_nk (by decide)]
  exact hI.2.2.2.2.2.1.trans hI.2.2.2.2.1.symm
theorem op_told {a : Int} {tr : Nat} (hI : Core kw K I J A w) (hT : Tr I w tr) (ha : -2147483648 ≤ a ∧ a < 2147483648) : Both (f_X10_told (some 64) (zi a)) (f_X13_told (some 224) (zi a)) (PostS kw K A w tr) (K, I, J, A) := by
  unfold Both f_X10_told f_X0_fieldsHeld f_X0_equationsHeld f_X0_letsHeld f_X3_tape f_X9_bytesHeld
  obtain ⟨hA0, hA1, hA2, hA3, hA4, hA5, hA6, hA7, hA8⟩ := a64 hI
  have hcb := hI.cb.1
  have hz : ∀ n : Nat, n < 100 → (zi a = zn n ↔ a = n) := fun n hn => by rw [zn_zi]; exact zi_inj (by omega) (by omega) (by omega) (by omega)
  have e1 : ∀ n : Nat, n < 100 → a = n → zi a = zn n := fun n hn h => (hz n hn).mpr h
  have e2 : ∀ n : Nat, n < 100 → ¬ a = n → ¬ zi a = zn n := fun n hn h q => h ((hz n hn).mp q)
  -- the reference
  have run7 : a = 7 → ∀ v, v = I 224 8 → wp (f_X13_told (some 224) (zi a)) (fun r' h2 => r' = v ∧ PostS kw K A w tr h2) (K, I, J, A) := by
    intro h v hv
    unfold f_X13_told
    refine b_putI hI.m0.1 (by decide) (wp_ifn (fun q => q (e1 7 (by decide) h)) (b_getI hI.m0.1 (wp_rt ⟨?_, _, _, rfl, hI.m0p, hT.m0p⟩)))
    rw [st2_nk (by decide), hv]
  have runx : ¬ (0 ≤ a ∧ a ≤ 6) → ¬ a = 7 → wp (f_X13_told (some 224) (zi a)) (fun r' h2 => r' = -1 ∧ PostS kw K A w tr h2) (K, I, J, A) := by
    intro h h7
    unfold f_X13_told
    refine b_putI hI.m0.1 (by decide) (wp_ifp (e2 7 (by decide) h7) (b_eq (t_inN (lo := 0) (hi := 6) ha (by omega) (by omega)) ?_))
    rw [show (decide (((0 : Nat) : Int) ≤ a) && decide (a ≤ ((6 : Nat) : Int))) = false from by simp; omega]
    exact wp_ifn (by decide) (wp_rt ⟨rfl, _, _, rfl, hI.m0p, hT.m0p⟩)
  have runs : (0 ≤ a ∧ a ≤ 6) → ∀ v, (bnf w.2.1 = 0 → v = 0) → (∀ b, A 224 3 = some b → BS K A b → 236 ≤ b → RBC K I J A b w.2.1 → wp (if zi a = (0 : Int32) then mBd (mGetA 11 3 (some 224)) (fun r3 => mBd (mGetI 9 0 r3) (fun r4 => mRt r4)) else (if zi a = (1 : Int32) then mBd (mGetA 11 3 (some 224)) (fun r5 => mBd (mGetI 9 1 r5) (fun r6 => mRt r6)) else (if zi a = (2 : Int32) then mBd (mGetA 11 3 (some 224)) (fun r7 => mBd (mGetI 9 2 r7) (fun r8 => mRt r8)) else (if zi a = (3 : Int32) then mBd (mGetA 11 24 (some 224)) (fun r9 => mBd (mLdJ r9 (0 : Int32)) (fun r10 => mRt (r10.toInt32))) else (if zi a = (4 : Int32) then mBd (mGetI 11 28 (some 224)) (fun r11 => mRt r11) else (if zi a = (5 : Int32) then mBd (mGetI 11 29 (some 224)) (fun r12 => mRt r12) else mBd (mGetI 11 30 (some 224)) (fun r13 => mRt r13))))))) (fun r' h2 => r' = v ∧ PostS kw K A w tr h2) (K, st2 I 224 0 0, J, A)) → wp (f_X13_told (some 224) (zi a)) (fun r' h2 => r' = v ∧ PostS kw K A w tr h2) (K, I, J, A) := by
    intro h v hv hb
    unfold f_X13_told
    refine b_putI hI.m0.1 (by decide) (wp_ifp (e2 7 (by decide) (by omega)) (b_eq (t_inN (lo := 0) (hi := 6) ha (by omega) (by omega)) ?_))
    rw [show (decide (((0 : Nat) : Int) ≤ a) && decide (a ≤ ((6 : Nat) : Int))) = true from by simp; omega]
    refine wp_ifp (by decide) ?_
    rcases hI.rb with ⟨h3, h0, _⟩ | ⟨b, h3, hb2, hS, hC, h1⟩
    · exact b_getA hI.m0.1 h3 (wp_ifp rfl (wp_rt ⟨(hv h0).symm, _, _, rfl, hI.m0p, hT.m0p⟩))
    · exact b_getA hI.m0.1 h3 (wp_ifn (by simp) (hb b h3 hS hb2 hC))
  have hkz := hI.kz
  have hle := hI.ule
  have hB0 : bnf w.2.1 = 0 → bne w.2.1 = 0 ∧ bnl w.2.1 = 0 := fun q => by
    rcases hI.rb with ⟨_, _, h⟩ | ⟨_, _, _, _, _, h⟩
    · exact h
    · omega
  have hn := hI.ok
  obtain ⟨⟨n1, _⟩, ⟨n2, _⟩, n3, _⟩ := hn
  by_cases h0 : a = 0
  · refine wp_ifp (e1 0 (by decide) h0) (b_getA hI.k64 hA8 (b_ck hI.cbs.1 (b_assoc (b_getIv hI.cbs.1 hcb.1 (b_rt (wp_rt ?_))))))
    refine runs (by omega) _ (fun q => by rw [q]; rfl) (fun b h3 hS hb hC => ?_)
    exact wp_ifp (e1 0 (by decide) h0) (b_getA hI.m0.1 h3 (b_getIv hS.1 ((st2_na (by omega)).trans hC.1.1) (wp_rt ⟨rfl, _, _, rfl, hI.m0p, hT.m0p⟩)))
  refine wp_ifn (e2 0 (by decide) h0) ?_
  by_cases h1 : a = 1
  · refine wp_ifp (e1 1 (by decide) h1) (b_getA hI.k64 hA8 (b_ck hI.cbs.1 (b_assoc (b_getIv hI.cbs.1 hcb.2.1 (b_rt (wp_rt ?_))))))
    refine runs (by omega) _ (fun q => by rw [(hB0 q).1]; rfl) (fun b h3 hS hb hC => ?_)
    exact wp_ifn (e2 0 (by decide) h0) (wp_ifp (e1 1 (by decide) h1) (b_getA hI.m0.1 h3 (b_getIv hS.1 ((st2_na (by omega)).trans hC.1.2.1) (wp_rt ⟨rfl, _, _, rfl, hI.m0p, hT.m0p⟩))))
  refine wp_ifn (e2 1 (by decide) h1) ?_
  by_cases h2 : a = 2
  · refine wp_ifp (e1 2 (by decide) h2) (b_getA hI.k64 hA8 (b_ck hI.cbs.1 (b_assoc (b_getIv hI.cbs.1 hcb.2.2 (b_rt (wp_rt ?_))))))
    refine runs (by omega) _ (fun q => by rw [(hB0 q).2]; rfl) (fun b h3 hS hb hC => ?_)
    exact wp_ifn (e2 0 (by decide) h0) (wp_ifn (e2 1 (by decide) h1) (wp_ifp (e1 2 (by decide) h2) (b_getA hI.m0.1 h3 (b_getIv hS.1 ((st2_na (by omega)).trans hC.1.2.2) (wp_rt ⟨rfl, _, _, rfl, hI.m0p, hT.m0p⟩)))))
  refine wp_ifn (e2 2 (by decide) h2) ?_
  by_cases h3 : a = 3
  · refine wp_ifp (e1 3 (by decide) h3) (b_getA hI.k64 hA2 (b_ck hI.gs.1 (b_eq (t_fieldNow hI.gs hI.rgc) (wp_rt ?_))))
    have hoS := hI.oS.1
    refine runs (by omega) _ (fun q => by rw [show w.2.2.1.1 = 0 by omega]; rfl) (fun b _ hS hb hC => ?_)
    refine wp_ifn (e2 0 (by decide) h0) (wp_ifn (e2 1 (by decide) h1) (wp_ifn (e2 2 (by decide) h2) (wp_ifp (e1 3 (by decide) h3) (b_getA hI.m0.1 hI.ms.2.1.2.2.2.2.2.2.1 (b_ldJ (j := 0) hI.ms.2.2.1.2.2.2.2.2.2.1 (by omega) (by omega) (wp_rt ⟨?_, _, _, rfl, hI.m0p, hT.m0p⟩))))))
    have e : J (224 + 7) 0 = zj w.2.2.1.1 := hI.rgr.2.2.1.1
    rw [e, zj_32, ← zn_zi]
  refine wp_ifn (e2 3 (by decide) h3) ?_
  have sk : ∀ {F0 F1 F2 F3 G : Mo Int32} {Q : Int32 → Hp → Prop} {h : Hp}, wp G Q h → wp (if zi a = (0 : Int32) then F0 else if zi a = (1 : Int32) then F1 else if zi a = (2 : Int32) then F2 else if zi a = (3 : Int32) then F3 else G) Q h := fun q => wp_ifn (e2 0 (by decide) h0) (wp_ifn (e2 1 (by decide) h1) (wp_ifn (e2 2 (by decide) h2) (wp_ifn (e2 3 (by decide) h3) q)))
  by_cases h4 : a = 4
  · refine wp_ifp (e1 4 (by decide) h4) (b_getA hI.k64 hA2 (b_ck hI.gs.1 (t_toUndo hI.gs hI.rgc (wp_rt ?_))))
    refine runs (by omega) _ (fun q => by rw [show w.2.2.2.1.1 = 0 by have := hkz q; omega]; rfl) (fun b _ hS hb hC => ?_)
    refine sk (wp_ifp (e1 4 (by decide) h4) (b_getIv hI.m0.1 ((st2_nk (by decide)).trans hI.rgr.1.1) (wp_rt ⟨rfl, _, _, rfl, hI.m0p, hT.m0p⟩)))
  refine wp_ifn (e2 4 (by decide) h4) ?_
  by_cases h5 : a = 5
  · refine wp_ifp (e1 5 (by decide) h5) (b_getA hI.k64 hA2 (b_ck hI.gs.1 (t_toRedo hI.gs hI.rgc (wp_rt ?_))))
    refine runs (by omega) _ (fun q => by rw [show w.2.2.2.2.1.1 = 0 by have := hkz q; omega]; rfl) (fun b _ hS hb hC => ?_)
    refine sk (wp_ifn (e2 4 (by decide) h4) (wp_ifp (e1 5 (by decide) h5) (b_getIv hI.m0.1 ((st2_nk (by decide)).trans hI.rgr.1.2.1) (wp_rt ⟨rfl, _, _, rfl, hI.m0p, hT.m0p⟩))))
  refine wp_ifn (e2 5 (by decide) h5) ?_
  by_cases h6 : a = 6
  · refine wp_ifp (e1 6 (by decide) h6) (b_getA hI.k64 hA2 (b_ck hI.gs.1 (t_images hI.gs hI.rgc (wp_rt ?_))))
    refine runs (by omega) _ (fun q => by rw [show w.2.2.2.2.2.1.1 = 0 by have := hkz q; omega]; rfl) (fun b _ hS hb hC => ?_)
    refine sk (wp_ifn (e2 4 (by decide) h4) (wp_ifn (e2 5 (by decide) h5) (b_getIv hI.m0.1 ((st2_nk (by decide)).trans hI.rgr.1.2.2) (wp_rt ⟨rfl, _, _, rfl, hI.m0p, hT.m0p⟩))))
  refine wp_ifn (e2 6 (by decide) h6) ?_
  by_cases h7 : a = 7
  · have hps := hI.sh.2.2.2.2.2.2.2.2.1
    refine wp_ifp (e1 7 (by decide) h7) (b_getA hI.k64 hA0 (b_ck hps.1 (b_assoc (b_getA hps.1 hps.2.1.1 (b_rt (b_ck hps.2.2.1.1 (b_assoc (b_getI hps.2.2.1.1 (b_rt (wp_rt ?_))))))))))
    refine run7 h7 _ ?_
    exact hI.2.2.2.1.2.1.trans hI.2.2.2.1.2.2.1.symm
  · exact wp_ifn (e2 7 (by decide) h7) (wp_rt (runx (by omega) h7))
end
