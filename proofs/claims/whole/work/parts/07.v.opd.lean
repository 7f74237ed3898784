/-! ===== relations, parts, the law, the curve: the calls ===== -/
section
variable {β : Type} {kw : Nat → Int64} {K : List (Nat × Nat)} {I I' : Nat → Nat → Int32} {J J' : Nat → Nat → Int64} {A : Nat → Nat → Option Nat} {w : WD}
theorem op_relation {a b c d : Int} (hI : Core kw K I J A w) (ha : -2147483648 ≤ a ∧ a < 2147483648) (hb : -2147483648 ≤ b ∧ b < 2147483648) (hc : -2147483648 ≤ c ∧ c < 2147483648) (hd : -2147483648 ≤ d ∧ d < 2147483648) : Both (f_X10_relation (some 64) (zi a) (zi b) (zi c) (zi d)) (f_X13_relation (some 224) (zi a) (zi b) (zi c) (zi d)) (Post kw K A w) (K, I, J, A) := by
  unfold Both f_X10_relation
  refine b_getA hI.k64 hI.a8 (b_ck hI.cbs.1 (b_eq (t_fat hI ha) ?_))
  have hcc := hc
  refine b_eq (t_hasSum hI hb hc) ?_
  cases h : areO w.2.1 a b c with
  | false =>
    refine wp_ifp (by decide) (e_ref hI.k64 ?_)
    unfold f_X13_relation
    refine r_start (hI).c (fun I1 hc h64 => ?_)
    refine b_ck hc.m0.1 (b_eq (t_areOrders hc.m0.1 hc.rb hc.ok ha hb hcc) ?_)
    rw [h]
    exact wp_ifp (by decide) (r_ref hc.m0 ⟨rfl, fin hc (by rw [h64]; exact st2_at) rfl (by decide)⟩)
  | true =>
    obtain ⟨hf, h5, h6⟩ := areO_t h
    obtain ⟨hF, hC, hpn, h4⟩ := hI.fld (show a.toNat < bnf w.2.1 by omega)
    have hr := pn_rng hpn
    have hp := phi_rng hr.2.2.1 hr.2.2.2
    obtain ⟨hA0, hA1, hA2, hA3, hA4, hA5, hA6, hA7, hA8⟩ := a64 hI
    obtain ⟨k1, k2, k3, k4⟩ := hI.rows
    rw [atF_t hf]
    refine wp_ifn (by decide) (b_ck hF.1 (b_eq (t_hasCharacter hF hC (by omega) hd) ?_))
    by_cases h7 : 0 ≤ d ∧ d < bfn w.2.1 a.toNat
    · rw [inb_t h7]
      generalize hn : bfn w.2.1 a.toNat = n at *
      generalize hpp : bfp w.2.1 a.toNat = p at *
      have hm1 := Nat.mod_lt (b.toNat + c.toNat) (show n > 0 by omega)
      have hm2 := Nat.mod_lt (c.toNat + d.toNat) (show n > 0 by omega)
      have hn0 : ¬ zn n = 0 := by rw [zn0 (by omega)]; omega
      generalize hx : mul n (jac p n b.toNat c.toNat) (jac p n ((b.toNat + c.toNat) % n) d.toNat) = x
      generalize hy : mul n (jac p n c.toNat d.toNat) (jac p n b.toNat ((c.toNat + d.toNat) % n)) = y
      have hx10 : x 10 = 0 ∧ x 11 = 0 := by rw [← hx]; exact res_10 hr.2.2.1 hr.2.2.2
      have hy10 : y 10 = 0 ∧ y 11 = 0 := by rw [← hy]; exact res_10 hr.2.2.1 hr.2.2.2
      have run : ∀ (J1 : Nat → Nat → Int64) (v : Int32), Core kw K I J1 A w → v = (if sam 10 x y then 1 else 0) → wp (f_X13_relation (some 224) (zi a) (zi b) (zi c) (zi d)) (fun r' h2 => r' = v ∧ Post kw K A w h2) (K, st2 I 64 11 0, J1, A) := by
        intro J1 v hI1 hv
        unfold f_X13_relation
        refine r_start (hI1).c (fun I1 hc h64 => ?_)
        refine b_ck hc.m0.1 (b_eq (t_areOrders hc.m0.1 hc.rb hc.ok ha hb hcc) ?_)
        rw [h]
        refine wp_ifn (by decide) (b_ck hc.m0.1 (b_eq (t_isOrder hc.m0.1 hc.rb hc.ok ha hd) ?_))
        rw [inO_t hf (by rw [hn]; exact h7)]
        refine wp_ifp (by decide) ?_
        obtain ⟨bk, fo, h3, hbk, hBS, hRBC, hfo, hfo2, hRF, hRC⟩ := hc.rfld (show a.toNat < bnf w.2.1 by omega)
        rw [hn, hpp] at hRC
        rw [zi_nn hf.1]
        refine r_fld hc.m0.1 h3 hBS hfo h4 (b_ck hc.m0.1 ?_)
        rw [zi_nn h5.1, zi_nn h6.1, zi_nn h7.1]
        refine wp_bd (t_jacobiRow (to := 0) hc.ms hRF hRC (by omega) (by omega) hpn (by omega) (by omega) (by omega) (fun J2 hf2 hv2 => b_getIv hRF.1 hRC.1.2.1 (wp_rq hn0 (b_ck hc.m0.1 ?_))))
        have hRC2 := hRC.mv (hf2.1 _ (by omega) (by omega))
        rw [zn_add, irem_zn (by omega) (by omega)]
        refine wp_bd (t_jacobiRow (to := 1) hc.ms hRF hRC2 (by omega) (by omega) hpn (by omega) (by omega) (by omega) (fun J3 hf3 hv3 => b_ck hc.m0.1 ?_))
        have hRC3 := hRC2.mv (hf3.1 _ (by omega) (by omega))
        refine wp_bd (t_multiplyR (a := 0) (b := 1) (to := 2) hc.ms hRF hRC3 (by omega) (by omega) (by omega) (by omega) (by omega) (by omega) (fun J4 hf4 hv4 => b_ck hc.m0.1 ?_))
        have hRC4 := hRC3.mv (hf4.1 _ (by omega) (by omega))
        have row2 : ∀ k, k < 12 → rv J4 224 2 k = x k := by
          intro k hk
          rw [hv4 k hk, ← hx, mul_congr (x' := jac p n b.toNat c.toNat) (y' := jac p n ((b.toNat + c.toNat) % n) d.toNat)]
          · intro j hj; rw [hf3.row (by omega) j (by omega), hv2 j (by omega)]
          · intro j hj; rw [hv3 j (by omega)]
        refine wp_bd (t_jacobiRow (to := 0) hc.ms hRF hRC4 (by omega) (by omega) hpn (by omega) (by omega) (by omega) (fun J5 hf5 hv5 => b_getIv hRF.1 hRC.1.2.1 (wp_rq hn0 (b_ck hc.m0.1 ?_))))
        have hRC5 := hRC4.mv (hf5.1 _ (by omega) (by omega))
        rw [zn_add, irem_zn (by omega) (by omega)]
        refine wp_bd (t_jacobiRow (to := 1) hc.ms hRF hRC5 (by omega) (by omega) hpn (by omega) (by omega) (by omega) (fun J6 hf6 hv6 => b_ck hc.m0.1 ?_))
        have hRC6 := hRC5.mv (hf6.1 _ (by omega) (by omega))
        refine wp_bd (t_multiplyR (a := 0) (b := 1) (to := 3) hc.ms hRF hRC6 (by omega) (by omega) (by omega) (by omega) (by omega) (by omega) (fun J7 hf7 hv7 => b_ck hc.m0.1 ?_))
        have row3 : ∀ k, k < 12 → rv J7 224 3 k = y k := by
          intro k hk
          rw [hv7 k hk, ← hy, mul_congr (x' := jac p n c.toNat d.toNat) (y' := jac p n b.toNat ((c.toNat + d.toNat) % n))]
          · intro j hj; rw [hf6.row (by omega) j (by omega), hv5 j (by omega)]
          · intro j hj; rw [hv6 j (by omega)]
        have row2' : ∀ k, k < 12 → rv J7 224 2 k = x k := by
          intro k hk
          rw [hf7.row (by omega) k hk, hf6.row (by omega) k hk, hf5.row (by omega) k hk]; exact row2 k hk
        have es : sam 12 (rv J7 224 2) (rv J7 224 3) = sam 10 x y := by
          apply Bool.eq_iff_iff.mpr
          rw [sam_iff, sam_iff]
          constructor
          · intro q i hi; rw [← row2' i (by omega), ← row3 i (by omega)]; exact q i (by omega)
          · intro q i hi
            rw [row2' i hi, row3 i hi]
            by_cases h10 : i < 10
            · exact q i h10
            · have : i = 10 ∨ i = 11 := by omega
              rcases this with rfl | rfl
              · rw [hx10.1, hy10.1]
              · rw [hx10.2, hy10.2]
        refine b_eq (t_areAlike (a := 2) (b := 3) hc.ms (by omega) (by omega)) ?_
        rw [es]
        have hc7 := (((((hc.jr hf2).jr hf3).jr hf4).jr hf5).jr hf6).jr hf7
        cases hs : sam 10 x y with
        | false =>
          rw [hs, if_neg (by decide)] at hv
          exact wp_ifp (by decide) (r_good hc.m0 ⟨hv.symm, fin0 hc7 (by rw [h64]; exact st2_at)⟩)
        | true =>
          rw [hs, if_pos rfl] at hv
          exact wp_ifn (by decide) (r_good hc.m0 ⟨hv.symm, fin0 hc7 (by rw [h64]; exact st2_at)⟩)
      refine wp_ifp (by decide) (b_ck hF.1 (b_eq (t_order hF hC) (b_getA hI.k64 hA1 (b_getA hI.k64 hA4 (b_ck hF.1 ?_)))))
      rw [show zi b = zn b.toNat from zi_nn h5.1, show zi c = zn c.toNat from zi_nn h6.1, show zi d = zn d.toNat from zi_nn h7.1] at *
      refine wp_bd (t_jacobiSum hI.ot hF hC hpn hI.rg (by omega) (by omega) k1 (by decide) (by decide) (fun J1 hf1 hv1 => ?_))
      rw [zn_add]
      refine b_eq (t_modn (zn_i64 (by omega)) (by omega) (by omega)) (b_getA hI.k64 hA1 (b_getA hI.k64 hA5 (b_ck hF.1 ?_)))
      refine wp_bd (t_jacobiSum hI.ot hF hC hpn hI.rg (by omega) (by omega) k2 (by decide) (by decide) (fun J2 hf2 hv2 => b_getA hI.k64 hA1 (b_getA hI.k64 hA4 (b_getA hI.k64 hA5 (b_getA hI.k64 hA6 (b_ck hI.rg.1 ?_))))))
      refine wp_bd (t_multiply hI.ot hI.rg (by omega) k1 k2 k3 (by decide) (by decide) (by decide) (by decide) (fun J3 hf3 hv3 => b_getA hI.k64 hA1 (b_getA hI.k64 hA4 (b_ck hF.1 ?_))))
      refine wp_bd (t_jacobiSum hI.ot hF hC hpn hI.rg (by omega) (by omega) k1 (by decide) (by decide) (fun J4 hf4 hv4 => ?_))
      rw [zn_add]
      refine b_eq (t_modn (zn_i64 (by omega)) (by omega) (by omega)) (b_getA hI.k64 hA1 (b_getA hI.k64 hA5 (b_ck hF.1 ?_)))
      refine wp_bd (t_jacobiSum hI.ot hF hC hpn hI.rg (by omega) (by omega) k2 (by decide) (by decide) (fun J5 hf5 hv5 => b_getA hI.k64 hA1 (b_getA hI.k64 hA4 (b_getA hI.k64 hA5 (b_getA hI.k64 hA7 (b_ck hI.rg.1 ?_))))))
      refine wp_bd (t_multiply hI.ot hI.rg (by omega) k1 k2 k4 (by decide) (by decide) (by decide) (by decide) (fun J6 hf6 hv6 => b_getA hI.k64 hA6 (b_getA hI.k64 hA7 (b_eq (t_same k3 k4 (by omega)) ?_))))
      have hI6 := (((((hI.j1 (Or.inl rfl) hf1).j1 (Or.inr (Or.inl rfl)) hf2).j1 (Or.inr (Or.inr (Or.inl rfl))) hf3).j1 (Or.inl rfl) hf4).j1 (Or.inr (Or.inl rfl)) hf5).j1 (Or.inr (Or.inr (Or.inr rfl))) hf6
      have rx : ∀ k, k < 10 → J6 170 k = x k := by
        intro k hk
        rw [hf6 170 (by decide) (by decide), hf5 170 (by decide) (by decide), hf4 170 (by decide) (by decide), hv3 k hk, ← hx, mul_congr (x' := jac p n b.toNat c.toNat) (y' := jac p n ((b.toNat + c.toNat) % n) d.toNat)]
        · intro j hj; rw [hf2 168 (by decide) (by decide), hv1 j (by omega)]
        · intro j hj; rw [hv2 j (by omega)]
      have ry : ∀ k, k < 10 → J6 171 k = y k := by
        intro k hk
        rw [hv6 k hk, ← hy, mul_congr (x' := jac p n c.toNat d.toNat) (y' := jac p n b.toNat ((c.toNat + d.toNat) % n))]
        · intro j hj; rw [hf5 168 (by decide) (by decide), hv4 j (by omega)]
        · intro j hj; rw [hv5 j (by omega)]
      have es : sam 10 (J6 170) (J6 171) = sam 10 x y := by
        apply Bool.eq_iff_iff.mpr
        rw [sam_iff, sam_iff]
        constructor
        · intro q i hi; rw [← rx i hi, ← ry i hi]; exact q i hi
        · intro q i hi; rw [rx i hi, ry i hi]; exact q i hi
      rw [es]
      cases hs : sam 10 x y with
      | false => exact wp_ifp (by decide) (e_ans hI.k64 (run J6 0 hI6 (by rw [hs]; rfl)))
      | true => exact wp_ifn (by decide) (e_ans hI.k64 (run J6 1 hI6 (by rw [hs]; rfl)))
    · rw [inb_f h7]
      refine wp_ifn (by decide) (e_ref hI.k64 ?_)
      unfold f_X13_relation
      refine r_start (hI).c (fun I1 hc h64 => ?_)
      refine b_ck hc.m0.1 (b_eq (t_areOrders hc.m0.1 hc.rb hc.ok ha hb hcc) ?_)
      rw [h]
      refine wp_ifn (by decide) (b_ck hc.m0.1 (b_eq (t_isOrder hc.m0.1 hc.rb hc.ok ha hd) ?_))
      rw [inO_f (fun q => h7 q.2)]
      exact wp_ifn (by decide) (r_ref hc.m0 ⟨rfl, fin hc (by rw [h64]; exact st2_at) rfl (by decide)⟩)
theorem unit_t {n : Nat} {v : Int} (h : unit n v = true) : 0 < v ∧ v < n := by
  unfold unit at h
  simp only [Bool.and_eq_true, decide_eq_true_eq] at h
  exact h.1
theorem prt_congr {p n t : Nat} {c c' : Nat → Int64} (h : ∀ i, i < phi n → c i = c' i) : prt p n t c = prt p n t c' := by
  have key : ∀ k, k ≤ phi n → pvS p (zOf p n t) c k = pvS p (zOf p n t) c' k := by
    intro k
    induction k with
    | zero => intro _; rfl
    | succ k ih => intro hk; show _ + _ * _ = _ + _ * _; rw [ih (by omega), h k (by omega)]
  unfold prt
  rw [key _ (Nat.le_refl _)]
theorem bnd_of {N : Nat} {f g : Nat → Int64} (h : ∀ i, i < N → f i = g i) (hb : ∀ i, -815104 ≤ (g i).toInt ∧ (g i).toInt ≤ 815104) : bnd N 1000000000 f := fun i hi => by
  rw [h i hi]; have := hb i; omega
theorem op_part {a b c d : Int} (hI : Core kw K I J A w) (ha : -2147483648 ≤ a ∧ a < 2147483648) (hb : -2147483648 ≤ b ∧ b < 2147483648) (hc : -2147483648 ≤ c ∧ c < 2147483648) (hd : -2147483648 ≤ d ∧ d < 2147483648) : Both (f_X10_part (some 64) (zi a) (zi b) (zi c) (zi d)) (f_X13_part (some 224) (zi a) (zi b) (zi c) (zi d)) (Post kw K A w) (K, I, J, A) := by
  unfold Both f_X10_part
  refine b_getA hI.k64 hI.a8 (b_ck hI.cbs.1 (b_eq (t_fat hI ha) ?_))
  have hcc := hc
  refine b_eq (t_hasSum hI hb hc) ?_
  cases h : areO w.2.1 a b c with
  | false =>
    refine wp_ifn (by decide) (e_ref hI.k64 ?_)
    unfold f_X13_part
    refine r_start (hI).c (fun I1 hc h64 => ?_)
    refine b_ck hc.m0.1 (b_eq (t_areOrders hc.m0.1 hc.rb hc.ok ha hb hcc) ?_)
    rw [h]
    exact wp_ifn (by decide) (r_ref hc.m0 ⟨rfl, fin hc (by rw [h64]; exact st2_at) rfl (by decide)⟩)
  | true =>
    obtain ⟨hf, h5, h6⟩ := areO_t h
    obtain ⟨hF, hC, hpn, h4⟩ := hI.fld (show a.toNat < bnf w.2.1 by omega)
    have hr := pn_rng hpn
    have hp := phi_rng hr.2.2.1 hr.2.2.2
    obtain ⟨hA0, hA1, hA2, hA3, hA4, hA5, hA6, hA7, hA8⟩ := a64 hI
    obtain ⟨k1, k2, k3, k4⟩ := hI.rows
    rw [atF_t hf]
    refine wp_ifp (by decide) (b_ck hF.1 (b_eq (t_hasTurn hF hC hpn hd) ?_))
    cases hu : unit (bfn w.2.1 a.toNat) d with
    | false =>
      refine wp_ifn (by decide) (e_ref hI.k64 ?_)
      unfold f_X13_part
      refine r_start (hI).c (fun I1 hc h64 => ?_)
      refine b_ck hc.m0.1 (b_eq (t_areOrders hc.m0.1 hc.rb hc.ok ha hb hcc) ?_)
      rw [h]
      refine wp_ifp (by decide) ?_
      obtain ⟨bk, fo, h3, hbk, hBS, hRBC, hfo, hfo2, hRF, hRC⟩ := hc.rfld (show a.toNat < bnf w.2.1 by omega)
      rw [zi_nn hf.1]
      refine r_fld hc.m0.1 h3 hBS hfo h4 (b_ck hRF.1 (b_eq (t_isUnit hRF hRC hpn hd) ?_))
      rw [hu]
      exact wp_ifn (by decide) (r_ref hc.m0 ⟨rfl, fin hc (by rw [h64]; exact st2_at) rfl (by decide)⟩)
    | true =>
      have hu' := unit_t hu
      refine wp_ifp (by decide) (b_getA hI.k64 hA1 (b_getA hI.k64 hA4 (b_ck hF.1 ?_)))
      rw [zi_nn h5.1, zi_nn h6.1]
      refine wp_bd (t_jacobiSum hI.ot hF hC hpn hI.rg (by omega) (by omega) k1 (by decide) (by decide) (fun J1 hf1 hv1 => b_getA hI.k64 hA4 (b_ck hF.1 ?_)))
      rw [zi_nn (show 0 ≤ d by omega)]
      refine b_eq (t_partOf (B := 0) hI.ot hF hC hpn (by omega) k1 (bnd_of hv1 (jac_bw hpn))) (e_ans hI.k64 ?_)
      rw [prt_congr (fun i hi => hv1 i (by omega)), ← zi_nn h5.1, ← zi_nn h6.1, ← zi_nn (show 0 ≤ d by omega)]
      have hI1 := hI.j1 (Or.inl rfl) hf1
      unfold f_X13_part
      refine r_start (hI1).c (fun I1 hc h64 => ?_)
      refine b_ck hc.m0.1 (b_eq (t_areOrders hc.m0.1 hc.rb hc.ok ha hb hcc) ?_)
      rw [h]
      refine wp_ifp (by decide) ?_
      obtain ⟨bk, fo, h3, hbk, hBS, hRBC, hfo, hfo2, hRF, hRC⟩ := hc.rfld (show a.toNat < bnf w.2.1 by omega)
      rw [zi_nn hf.1]
      refine r_fld hc.m0.1 h3 hBS hfo h4 (b_ck hRF.1 (b_eq (t_isUnit hRF hRC hpn hd) ?_))
      rw [hu]
      refine wp_ifp (by decide) (r_fld hc.m0.1 h3 hBS hfo h4 (b_ck hc.m0.1 ?_))
      rw [zi_nn h5.1, zi_nn h6.1, zi_nn (show 0 ≤ d by omega)]
      refine wp_bd (t_jacobiRow (to := 0) hc.ms hRF hRC (by omega) (by omega) hpn (by omega) (by omega) (by omega) (fun J2 hf2 hv2 => r_fld hc.m0.1 h3 hBS hfo h4 (b_ck hc.m0.1 ?_)))
      refine b_eq (t_partOfR (a := 0) hc.ms hRF (hRC.mv (hf2.1 _ (by omega) (by omega))) hpn (by omega) (by omega) (bnd_of (fun i hi => hv2 i (by omega)) (jac_bw hpn))) ?_
      rw [prt_congr (fun i hi => hv2 i (by omega))]
      exact r_good hc.m0 ⟨rfl, fin0 (hc.jr hf2) (by rw [h64]; exact st2_at)⟩
theorem op_law {a b c d : Int} (hI : Core kw K I J A w) (ha : -2147483648 ≤ a ∧ a < 2147483648) (hb : -2147483648 ≤ b ∧ b < 2147483648) (hc : -2147483648 ≤ c ∧ c < 2147483648) (hd : -2147483648 ≤ d ∧ d < 2147483648) : Both (f_X10_law (some 64) (zi a) (zi b) (zi c) (zi d)) (f_X13_law (some 224) (zi a) (zi b) (zi c) (zi d)) (Post kw K A w) (K, I, J, A) := by
  unfold Both f_X10_law
  refine b_getA hI.k64 hI.a8 (b_ck hI.cbs.1 (b_eq (t_fat hI ha) ?_))
  have hcc := hc
  refine b_eq (t_hasSum hI hb hc) ?_
  cases h : areO w.2.1 a b c with
  | false =>
    refine wp_ifn (by decide) (e_ref hI.k64 ?_)
    unfold f_X13_law
    refine r_start (hI).c (fun I1 hc h64 => ?_)
    refine b_ck hc.m0.1 (b_eq (t_areOrders hc.m0.1 hc.rb hc.ok ha hb hcc) ?_)
    rw [h]
    exact wp_ifn (by decide) (r_ref hc.m0 ⟨rfl, fin hc (by rw [h64]; exact st2_at) rfl (by decide)⟩)
  | true =>
    obtain ⟨hf, h5, h6⟩ := areO_t h
    obtain ⟨hF, hC, hpn, h4⟩ := hI.fld (show a.toNat < bnf w.2.1 by omega)
    have hr := pn_rng hpn
    rw [atF_t hf]
    refine wp_ifp (by decide) (b_ck hF.1 (b_eq (t_hasTurn hF hC hpn hd) ?_))
    cases hu : unit (bfn w.2.1 a.toNat) d with
    | false =>
      refine wp_ifn (by decide) (e_ref hI.k64 ?_)
      unfold f_X13_law
      refine r_start (hI).c (fun I1 hc h64 => ?_)
      refine b_ck hc.m0.1 (b_eq (t_areOrders hc.m0.1 hc.rb hc.ok ha hb hcc) ?_)
      rw [h]
      refine wp_ifp (by decide) ?_
      obtain ⟨bk, fo, h3, hbk, hBS, hRBC, hfo, hfo2, hRF, hRC⟩ := hc.rfld (show a.toNat < bnf w.2.1 by omega)
      rw [zi_nn hf.1]
      refine r_fld hc.m0.1 h3 hBS hfo h4 (b_ck hRF.1 (b_eq (t_isUnit hRF hRC hpn hd) ?_))
      rw [hu]
      exact wp_ifn (by decide) (r_ref hc.m0 ⟨rfl, fin hc (by rw [h64]; exact st2_at) rfl (by decide)⟩)
    | true =>
      have hu' := unit_t hu
      have hn0 : ¬ zn (bfn w.2.1 a.toNat) = 0 := by rw [zn0 (by omega)]; omega
      have zb : (zi b = 0) ↔ b = 0 := zi0 (by omega)
      have zc : (zi c = 0) ↔ c = 0 := zi0 (by omega)
      have eb := zi_nn h5.1
      have ec := zi_nn h6.1
      have ed := zi_nn (show 0 ≤ d by omega)
      have d1 : d.toNat * b.toNat ≤ 12 * 12 := Nat.mul_le_mul (by omega) (by omega)
      have d2 : d.toNat * c.toNat ≤ 12 * 12 := Nat.mul_le_mul (by omega) (by omega)
      refine wp_ifp (by decide) (b_ck hF.1 (b_eq (t_order hF hC) ?_))
      -- the reference up to its tests
      have up : ∀ (tr : Int32) (Q : Int32 → Hp → Prop), (∀ I1, Core kw K I1 J A w → I1 64 = st2 I 64 11 tr 64 → wp (if zi b = 0 then mBd (mCk 11 (some 224) (f_X13_refused (some 224) 5)) fun r6 => mRt r6 else if zi c = 0 then mBd (mCk 11 (some 224) (f_X13_refused (some 224) 5)) fun r7 => mRt r7 else mRq (¬ zn (bfn w.2.1 a.toNat) = 0) (if ¬ irem (zi b + zi c) (zn (bfn w.2.1 a.toNat)) = 0 then (if irem (zi d * zi b) (zn (bfn w.2.1 a.toNat)) + irem (zi d * zi c) (zn (bfn w.2.1 a.toNat)) ≥ zn (bfn w.2.1 a.toNat) then mBd (mCk 11 (some 224) (f_X13_good (some 224) 0)) fun r12 => mRt r12 else mBd (mCk 11 (some 224) (f_X13_good (some 224) 1)) fun r13 => mRt r13) else mBd (mCk 11 (some 224) (f_X13_refused (some 224) 5)) fun r14 => mRt r14)) Q (K, I1, J, A)) → wp (f_X13_law (some 224) (zi a) (zi b) (zi c) (zi d)) Q (K, st2 I 64 11 tr, J, A) := by
        intro tr Q hq
        unfold f_X13_law
        refine r_start (hI).c (fun I1 hc h64 => ?_)
        refine b_ck hc.m0.1 (b_eq (t_areOrders hc.m0.1 hc.rb hc.ok ha hb hcc) ?_)
        rw [h]
        refine wp_ifp (by decide) ?_
        obtain ⟨bk, fo, h3, hbk, hBS, hRBC, hfo, hfo2, hRF, hRC⟩ := hc.rfld (show a.toNat < bnf w.2.1 by omega)
        rw [zi_nn hf.1]
        refine r_fld hc.m0.1 h3 hBS hfo h4 (b_ck hRF.1 (b_eq (t_isUnit hRF hRC hpn hd) ?_))
        rw [hu]
        refine wp_ifp (by decide) ?_
        have hq' := hq I1 hc h64
        by_cases q1 : zi b = 0
        · rw [if_pos q1] at hq' ⊢; exact hq'
        · rw [if_neg q1] at hq' ⊢
          by_cases q2 : zi c = 0
          · rw [if_pos q2] at hq' ⊢; exact hq'
          · rw [if_neg q2] at hq' ⊢
            refine b_getIv hRF.1 hRC.1.2.1 ?_
            unfold mRq at hq' ⊢
            rw [if_pos hn0] at hq' ⊢
            by_cases q3 : irem (zi b + zi c) (zn (bfn w.2.1 a.toNat)) = 0
            · rw [if_neg (fun z => z q3)] at hq' ⊢; exact hq'
            · rw [if_pos q3] at hq' ⊢
              refine b_getIv hRF.1 hRC.1.2.1 ?_
              rw [if_pos hn0]
              refine b_getIv hRF.1 hRC.1.2.1 ?_
              rw [if_pos hn0]
              exact b_getIv hRF.1 hRC.1.2.1 hq'
      by_cases q1 : b = 0
      · refine wp_ifp (zb.mpr q1) (e_ref hI.k64 (up _ _ (fun I1 hc h64 => wp_ifp (zb.mpr q1) (r_ref hc.m0 ⟨rfl, fin hc (by rw [h64]; exact st2_at) rfl (by decide)⟩))))
      · refine wp_ifn (fun z => q1 (zb.mp z)) ?_
        by_cases q2 : c = 0
        · exact wp_ifp (zc.mpr q2) (e_ref hI.k64 (up _ _ (fun I1 hc h64 => wp_ifn (fun z => q1 (zb.mp z)) (wp_ifp (zc.mpr q2) (r_ref hc.m0 ⟨rfl, fin hc (by rw [h64]; exact st2_at) rfl (by decide)⟩)))))
        · refine wp_ifn (fun z => q2 (zc.mp z)) ?_
          have esum : zi b + zi c = zn (b.toNat + c.toNat) := by rw [eb, ec, zn_add]
          have hm := Nat.mod_lt (b.toNat + c.toNat) (show bfn w.2.1 a.toNat > 0 by omega)
          rw [esum]
          refine wp_ifq (not_congr (zn_inj (by omega) (by omega))) ?_
          by_cases q3 : b.toNat + c.toNat = bfn w.2.1 a.toNat
          · refine wp_ifn (fun z => z q3) (e_ref hI.k64 (up _ _ (fun I1 hc h64 => wp_ifn (fun z => q1 (zb.mp z)) (wp_ifn (fun z => q2 (zc.mp z)) (wp_rq hn0 (wp_ifn ?_ (r_ref hc.m0 ⟨rfl, fin hc (by rw [h64]; exact st2_at) rfl (by decide)⟩)))))))
            intro z
            apply z
            rw [esum, q3, irem_zn (by omega) (by omega), Nat.mod_self]; rfl
          · refine wp_ifp q3 ?_
            have e1 : zi d * zi b = zn (d.toNat * b.toNat) := by rw [ed, eb, zn_mul]
            have e2 : zi d * zi c = zn (d.toNat * c.toNat) := by rw [ed, ec, zn_mul]
            have hm1 := Nat.mod_lt (d.toNat * b.toNat) (show bfn w.2.1 a.toNat > 0 by omega)
            have hm2 := Nat.mod_lt (d.toNat * c.toNat) (show bfn w.2.1 a.toNat > 0 by omega)
            have nz : ¬ irem (zi b + zi c) (zn (bfn w.2.1 a.toNat)) = 0 := by
              rw [esum, irem_zn (by omega) (by omega), zn0 (by omega)]
              intro z
              by_cases lt : b.toNat + c.toNat < bfn w.2.1 a.toNat
              · rw [Nat.mod_eq_of_lt lt] at z; omega
              · rw [Nat.mod_eq_sub_mod (by omega), Nat.mod_eq_of_lt (by omega)] at z; omega
            rw [e1, e2]
            refine b_eq (t_modn (zn_i64 (by omega)) (by omega) (by omega)) (b_eq (t_modn (zn_i64 (by omega)) (by omega) (by omega)) ?_)
            rw [zn_add]
            by_cases q4 : bfn w.2.1 a.toNat ≤ d.toNat * b.toNat % bfn w.2.1 a.toNat + d.toNat * c.toNat % bfn w.2.1 a.toNat
            · refine wp_ifp (ge_t (by omega)) (e_ans hI.k64 (up _ _ (fun I1 hc h64 => wp_ifn (fun z => q1 (zb.mp z)) (wp_ifn (fun z => q2 (zc.mp z)) (wp_rq hn0 (wp_ifp nz ?_))))))
              rw [e1, e2, irem_zn (by omega) (by omega), irem_zn (by omega) (by omega), zn_add]
              exact wp_ifp (ge_t (by omega)) (r_good hc.m0 ⟨rfl, fin0 hc (by rw [h64]; exact st2_at)⟩)
            · refine wp_ifn (ge_f (by omega)) (e_ans hI.k64 (up _ _ (fun I1 hc h64 => wp_ifn (fun z => q1 (zb.mp z)) (wp_ifn (fun z => q2 (zc.mp z)) (wp_rq hn0 (wp_ifp nz ?_))))))
              rw [e1, e2, irem_zn (by omega) (by omega), irem_zn (by omega) (by omega), zn_add]
              exact wp_ifn (ge_f (by omega)) (r_good hc.m0 ⟨rfl, fin0 hc (by rw [h64]; exact st2_at)⟩)
def ptC (p n : Nat) (x : Nat → Int64) : Nat → Nat
  | 0 => 0
  | t + 1 => ptC p n x t + (if unit n t = true ∧ prt p n t x = 0 then 1 else 0)
theorem prt_lt {p n t : Nat} {x : Nat → Int64} (hp : 1 ≤ p) : prt p n t x < p := by
  unfold prt
  have h1 := Int.emod_nonneg (pvS p (zOf p n t) x (phi n)) (show (p : Int) ≠ 0 by omega)
  have h2 := Int.emod_lt_of_pos (pvS p (zOf p n t) x (phi n)) (show (0 : Int) < p by omega)
  omega
theorem op_parts {a b c : Int} (hI : Core kw K I J A w) (ha : -2147483648 ≤ a ∧ a < 2147483648) (hb : -2147483648 ≤ b ∧ b < 2147483648) (hc : -2147483648 ≤ c ∧ c < 2147483648) : Both (f_X10_parts (some 64) (zi a) (zi b) (zi c)) (f_X13_parts (some 224) (zi a) (zi b) (zi c)) (Post kw K A w) (K, I, J, A) := by
  unfold Both f_X10_parts
  refine b_getA hI.k64 hI.a8 (b_ck hI.cbs.1 (b_eq (t_fat hI ha) ?_))
  have hcc := hc
  refine b_eq (t_hasSum hI hb hc) ?_
  cases h : areO w.2.1 a b c with
  | false =>
    refine wp_ifn (by decide) (e_ref hI.k64 ?_)
    unfold f_X13_parts
    refine r_start (hI).c (fun I1 hc h64 => ?_)
    refine b_ck hc.m0.1 (b_eq (t_areOrders hc.m0.1 hc.rb hc.ok ha hb hcc) ?_)
    rw [h]
    exact wp_ifn (by decide) (r_ref hc.m0 ⟨rfl, fin hc (by rw [h64]; exact st2_at) rfl (by decide)⟩)
  | true =>
    obtain ⟨hf, h5, h6⟩ := areO_t h
    obtain ⟨hF, hC, hpn, h4⟩ := hI.fld (show a.toNat < bnf w.2.1 by omega)
    have hr := pn_rng hpn
    have hp := phi_rng hr.2.2.1 hr.2.2.2
    obtain ⟨hA0, hA1, hA2, hA3, hA4, hA5, hA6, hA7, hA8⟩ := a64 hI
    obtain ⟨k1, k2, k3, k4⟩ := hI.rows
    rw [atF_t hf]
    refine wp_ifp (by decide) (b_getA hI.k64 hA1 (b_getA hI.k64 hA4 (b_ck hF.1 ?_)))
    rw [zi_nn h5.1, zi_nn h6.1]
    generalize hx : jac (bfp w.2.1 a.toNat) (bfn w.2.1 a.toNat) b.toNat c.toNat = x
    refine wp_bd (t_jacobiSum hI.ot hF hC hpn hI.rg (by omega) (by omega) k1 (by decide) (by decide) (fun J1 hf1 hv1 => ?_))
    have hI1 := hI.j1 (Or.inl rfl) hf1
    rw [hx] at hv1
    have hbw : ∀ i, -815104 ≤ (x i).toInt ∧ (x i).toInt ≤ 815104 := by rw [← hx]; exact jac_bw hpn
    -- the reference
    have run : wp (f_X13_parts (some 224) (zn a.toNat) (zn b.toNat) (zn c.toNat)) (fun r' h2 => r' = zn (ptC (bfp w.2.1 a.toNat) (bfn w.2.1 a.toNat) x (bfn w.2.1 a.toNat)) ∧ Post kw K A w h2) (K, st2 I 64 11 0, J1, A) := by
      rw [← zi_nn h5.1, ← zi_nn h6.1, ← zi_nn hf.1]
      unfold f_X13_parts
      refine r_start (hI1).c (fun I1 hc h64 => ?_)
      refine b_ck hc.m0.1 (b_eq (t_areOrders hc.m0.1 hc.rb hc.ok ha hb hcc) ?_)
      rw [h]
      refine wp_ifp (by decide) ?_
      obtain ⟨bk, fo, h3, hbk, hBS, hRBC, hfo, hfo2, hRF, hRC⟩ := hc.rfld (show a.toNat < bnf w.2.1 by omega)
      rw [zi_nn hf.1]
      refine r_fld hc.m0.1 h3 hBS hfo h4 (b_ck hc.m0.1 ?_)
      rw [zi_nn h5.1, zi_nn h6.1]
      refine wp_bd (t_jacobiRow (to := 0) hc.ms hRF hRC (by omega) (by omega) hpn (by omega) (by omega) (by omega) (fun J2 hf2 hv2 => ?_))
      rw [hx] at hv2
      have hRC2 := hRC.mv (hf2.1 _ (by omega) (by omega))
      unfold f_X13_parts_l47
      refine pf2 (N := bfn w.2.1 a.toNat) (fun t acc => 1 ≤ t ∧ acc = zn (ptC (bfp w.2.1 a.toNat) (bfn w.2.1 a.toNat) x t)) ?_ ?_ (k := 1) (by omega) (by unfold fuel; omega) ⟨by omega, ?_⟩
      · rintro t acc R ht ⟨ht1, rfl⟩ hR
        unfold f_X13_parts_b47
        have stepc : ptC (bfp w.2.1 a.toNat) (bfn w.2.1 a.toNat) x (t + 1) = ptC (bfp w.2.1 a.toNat) (bfn w.2.1 a.toNat) x t + (if unit (bfn w.2.1 a.toNat) t = true ∧ prt (bfp w.2.1 a.toNat) (bfn w.2.1 a.toNat) t x = 0 then 1 else 0) := rfl
        have skip : ¬ (unit (bfn w.2.1 a.toNat) t = true ∧ prt (bfp w.2.1 a.toNat) (bfn w.2.1 a.toNat) t x = 0) → wp (f_X13_parts_j85 R (some 224) (some fo) (zn t) (zn (ptC (bfp w.2.1 a.toNat) (bfn w.2.1 a.toNat) x t))) (fun r' h2 => r' = zn (ptC (bfp w.2.1 a.toNat) (bfn w.2.1 a.toNat) x (bfn w.2.1 a.toNat)) ∧ Post kw K A w h2) (K, I1, J2, A) := by
          intro hno
          unfold f_X13_parts_j85
          refine b_nm (hR _ ⟨by omega, ?_⟩)
          rw [stepc, if_neg hno]
          exact zn_add _ 0
        refine b_getIv hRF.1 hRC.1.2.1 (wp_ifn (ge_f (by omega)) (b_ck hRF.1 ?_))
        rw [zn_zi t]
        refine b_eq (t_isUnit (v := (t : Int)) hRF hRC2 hpn (by omega)) ?_
        cases hu : unit (bfn w.2.1 a.toNat) t with
        | false =>
          rw [← zn_zi t]
          exact wp_ifp (by decide) (skip (fun q => by rw [hu] at q; exact absurd q.1 (by decide)))
        | true =>
          rw [← zn_zi t]
          refine wp_ifn (by decide) (b_ck hc.m0.1 (b_eq (t_partOfR (a := 0) hc.ms hRF hRC2 hpn ht (by omega) (bnd_of (fun i hi => hv2 i (by omega)) hbw)) ?_))
          rw [prt_congr (fun i hi => hv2 i (by omega))]
          have hpl := prt_lt (n := bfn w.2.1 a.toNat) (t := t) (x := x) (show 1 ≤ bfp w.2.1 a.toNat by omega)
          refine wp_ifq (not_congr (zn0 (by omega))) ?_
          by_cases hz : prt (bfp w.2.1 a.toNat) (bfn w.2.1 a.toNat) t x = 0
          · refine wp_ifn (fun q => q hz) (b_nm (hR _ ⟨by omega, ?_⟩))
            rw [stepc, if_pos ⟨hu, hz⟩]
            exact zn_succ _
          · exact wp_ifp hz (skip (fun q => hz q.2))
      · rintro acc R ⟨ht1, rfl⟩
        unfold f_X13_parts_b47
        exact b_getIv hRF.1 hRC.1.2.1 (wp_ifp (ge_t (by omega)) (r_good hc.m0 ⟨rfl, fin0 (hc.jr hf2) (by rw [h64]; exact st2_at)⟩))
      · show zn 0 = zn (0 + _)
        rw [if_neg (fun q => absurd (unit_t q.1).1 (by decide))]
    unfold f_X10_parts_l48
    rw [show zi a = zn a.toNat from zi_nn hf.1]
    refine pf2 (N := bfn w.2.1 a.toNat) (fun t acc => 1 ≤ t ∧ acc = zn (ptC (bfp w.2.1 a.toNat) (bfn w.2.1 a.toNat) x t)) ?_ ?_ (k := 1) (by omega) (by unfold fuel; omega) ⟨by omega, ?_⟩
    · rintro t acc R ht ⟨ht1, rfl⟩ hR
      unfold f_X10_parts_b48
      have stepc : ptC (bfp w.2.1 a.toNat) (bfn w.2.1 a.toNat) x (t + 1) = ptC (bfp w.2.1 a.toNat) (bfn w.2.1 a.toNat) x t + (if unit (bfn w.2.1 a.toNat) t = true ∧ prt (bfp w.2.1 a.toNat) (bfn w.2.1 a.toNat) t x = 0 then 1 else 0) := rfl
      refine b_ck hF.1 (b_eq (t_order hF hC) (wp_ifn (ge_f (by omega)) (b_ck hF.1 ?_)))
      rw [zn_zi t]
      refine b_eq (t_hasTurn (v := (t : Int)) hF hC hpn (by omega)) ?_
      rw [← zn_zi t]
      cases hu : unit (bfn w.2.1 a.toNat) t with
      | false =>
        refine wp_ifp (by decide) (hR _ ⟨by omega, ?_⟩)
        rw [stepc, if_neg (fun q => by rw [hu] at q; exact absurd q.1 (by decide))]; rfl
      | true =>
        refine wp_ifn (by decide) (b_getA hI.k64 hA4 (b_ck hF.1 (b_eq (t_partOf (B := 0) hI.ot hF hC hpn ht k1 (bnd_of hv1 hbw)) ?_)))
        rw [prt_congr (fun i hi => hv1 i (by omega))]
        have hpl := prt_lt (n := bfn w.2.1 a.toNat) (t := t) (x := x) (show 1 ≤ bfp w.2.1 a.toNat by omega)
        refine wp_ifq (not_congr (zn0 (by omega))) ?_
        by_cases hz : prt (bfp w.2.1 a.toNat) (bfn w.2.1 a.toNat) t x = 0
        · refine wp_ifn (fun q => q hz) (hR _ ⟨by omega, ?_⟩)
          rw [stepc, if_pos ⟨hu, hz⟩]
          exact zn_succ _
        · refine wp_ifp hz (hR _ ⟨by omega, ?_⟩)
          rw [stepc, if_neg (fun q => hz q.2)]; rfl
    · rintro acc R ⟨ht1, rfl⟩
      unfold f_X10_parts_b48
      exact b_ck hF.1 (b_eq (t_order hF hC) (wp_ifp (ge_t (by omega)) (e_ans hI.k64 run)))
    · show zn 0 = zn (0 + _)
      rw [if_neg (fun q => absurd (unit_t q.1).1 (by decide))]
theorem op_curve {a b : Int} (hI : Core kw K I J A w) (ha : -2147483648 ≤ a ∧ a < 2147483648) (hb : -2147483648 ≤ b ∧ b < 2147483648) : Both (f_X10_curve (some 64) (zi a) (zi b)) (f_X13_curve (some 224) (zi a) (zi b)) (Post kw K A w) (K, I, J, A) := by
  unfold Both f_X10_curve
  refine b_getA hI.k64 hI.a8 (b_ck hI.cbs.1 (b_eq (t_fat hI ha) ?_))
  by_cases hf : 0 ≤ a ∧ a < bnf w.2.1
  · obtain ⟨hF, hC, hpn, h4⟩ := hI.fld (show a.toNat < bnf w.2.1 by omega)
    have hr := pn_rng hpn
    obtain ⟨hA0, hA1, hA2, hA3, hA4, hA5, hA6, hA7, hA8⟩ := a64 hI
    obtain ⟨k1, k2, k3, k4⟩ := hI.rows
    rw [atF_t hf]
    have bad : ¬ (1 ≤ b ∧ b ≤ 4) → wp (f_X13_curve (some 224) (zi a) (zi b)) (fun r' h2 => r' = (-1 : Int32).toInt64 ∧ Post kw K A w h2) (K, st2 I 64 11 2, J, A) := by
      intro hb2
      unfold f_X13_curve
      refine r_start (hI).c (fun I1 hc h64 => ?_)
      refine b_ck hc.m0.1 (b_eq (t_isField hc.m0.1 hc.rb hc.ok ha) ?_)
      rw [inb_t hf]
      refine wp_ifp (by decide) (b_eq (t_inN (lo := 1) (hi := 4) hb (by omega) (by omega)) ?_)
      rw [show (decide (((1 : Nat) : Int) ≤ b) && decide (b ≤ ((4 : Nat) : Int))) = false from by simp; omega]
      exact wp_ifn (by decide) (r_refL hc.m0 ⟨rfl, fin hc (by rw [h64]; exact st2_at) rfl (by decide)⟩)
    refine wp_ifn (by simp) ?_
    by_cases h1 : b < 1
    · exact wp_ifp (ilt_t (b := 1) (by omega)) (e_refL hI.k64 (bad (by omega)))
    · refine wp_ifn (ilt_f (b := 1) (by omega)) ?_
      by_cases h2 : b ≤ 4
      · refine wp_ifp (ile_t (b := 4) (by omega)) (b_putI hI.k64 (by decide) (b_getA hI.k64 hA1 (b_getA hI.k64 hA4 (b_getA hI.k64 hA5 (b_ck hF.1 ?_)))))
        have hI1 : Core kw K (st2 I 64 11 0) J A w := hI.c
        rw [zi_nn (show 0 ≤ b by omega)]
        refine wp_bd (t_pointsOfCurve hI1.ot hF (hI1.fld (show a.toNat < bnf w.2.1 by omega)).2.1 hpn hI.rg (by omega) k1 (by decide) (by decide) k2 (by decide) (by decide) (by decide) (fun J1 hf1 => wp_rt ?_))
        have hI2 : Core kw K (st2 I 64 11 0) J1 A w := hI1.jj (fun b hb => hf1 b (by unfold scrJ at hb; omega) (by unfold scrJ at hb; omega) (by unfold scrJ at hb; omega))
        rw [← zi_nn (show 0 ≤ b by omega)]
        unfold f_X13_curve
        refine r_start hI2 (fun I1 hc h64 => ?_)
        refine b_ck hc.m0.1 (b_eq (t_isField hc.m0.1 hc.rb hc.ok ha) ?_)
        rw [inb_t hf]
        refine wp_ifp (by decide) (b_eq (t_inN (lo := 1) (hi := 4) hb (by omega) (by omega)) ?_)
        rw [show (decide (((1 : Nat) : Int) ≤ b) && decide (b ≤ ((4 : Nat) : Int))) = true from by simp; omega]
        refine wp_ifp (by decide) ?_
        obtain ⟨bk, fo, h3, hbk, hBS, hRBC, hfo, hfo2, hRF, hRC⟩ := hc.rfld (show a.toNat < bnf w.2.1 by omega)
        rw [zi_nn hf.1, zi_nn (show 0 ≤ b by omega)]
        refine r_fld hc.m0.1 h3 hBS hfo h4 (b_ck hc.m0.1 (wp_bd (t_wholeRow (to := 3) hc.ms (by omega) (fun J2 hf2 hv2 => ?_))))
        refine t_curveR hc.ms hRF (hRC.mv (hf2.1 _ (by omega) (by omega))) (by omega) (by omega) hpn (by omega) (hv2 0 (by omega)) (fun J3 hf3 => r_goodL hc.m0 ⟨rfl, fin0 ((hc.jr hf2).jj (fun b hb => hf3 b (by unfold scrJ at hb; omega) (by unfold scrJ at hb; omega))) ?_⟩)
        rw [h64]; exact st2_at
      · exact wp_ifn (ile_f (b := 4) (by omega)) (e_refL hI.k64 (bad (by omega)))
  · rw [atF_f hf]
    refine wp_ifp rfl (e_refL hI.k64 ?_)
    unfold f_X13_curve
    refine r_start (hI).c (fun I1 hc h64 => ?_)
    refine b_ck hc.m0.1 (b_eq (t_isField hc.m0.1 hc.rb hc.ok ha) ?_)
    rw [inb_f hf]
    exact wp_ifn (by decide) (r_refL hc.m0 ⟨rfl, fin hc (by rw [h64]; exact st2_at) rfl (by decide)⟩)
end
