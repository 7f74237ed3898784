/-! ===== lets, counts, what is told: the calls ===== -/
section
variable {β : Type} {kw : Nat → Int64} {K : List (Nat × Nat)} {I I' : Nat → Nat → Int32} {J J' : Nat → Nat → Int64} {A : Nat → Nat → Option Nat} {w : WD}
theorem Core.rbl {l : Nat} (h : Core kw K I J A w) (hl : l < bnl w.2.1) : ∃ b fo, A 224 3 = some b ∧ 236 ≤ b ∧ BS K A b ∧ RBC K I J A b w.2.1 ∧ A (b + 1) (blf w.2.1 l) = some fo ∧ 236 ≤ fo ∧ RFS K A fo ∧ RFC I J fo (bfp w.2.1 (blf w.2.1 l)) (bfn w.2.1 (blf w.2.1 l)) ∧ l < 8 ∧ blf w.2.1 l < bnf w.2.1 ∧ blf w.2.1 l < 4 := by
  have ok := h.ok.2.2
  have h1 := (ok.2 l hl).1
  obtain ⟨b, fo, x⟩ := h.rfld h1
  exact ⟨b, fo, x.1, x.2.1, x.2.2.1, x.2.2.2.1, x.2.2.2.2.1, x.2.2.2.2.2.1, x.2.2.2.2.2.2.1, x.2.2.2.2.2.2.2, by omega, h1, by have := h.ok.1.1; omega⟩
theorem t_fieldOf {l b fo : Nat} (hm : kk K 224 = (0, 11)) (h3 : A 224 3 = some b) (hS : BS K A b) (hC : I (b + 7) l = zn (blf w.2.1 l)) (hl : l < 8) (hf : blf w.2.1 l < 4) (hfo : A (b + 1) (blf w.2.1 l) = some fo) : f_X13_fieldOf (some 224) (zn l) (K, I, J, A) = some (some fo, (K, I, J, A)) := by
  apply wp_get
  unfold f_X13_fieldOf
  refine b_getA hm h3 (b_getA hS.1 hS.2.1.1 (b_getA hm h3 (b_getA hS.1 hS.2.1.2.2.2.2.2.2.1 (b_ldI hS.2.2.1.2.2.2.2.2.2.1 hl (by omega) ?_))))
  rw [hC]
  exact b_ldA hS.2.2.1.1 (by decide) hf (by omega) (wp_rt ⟨hfo, rfl⟩)
theorem t_lets {Q : Unit → Hp → Prop} {l b to : Nat} {x : Nat → Int64} (hM : MS K A 224) (h3 : A 224 3 = some b) (hb : 236 ≤ b) (hS : BS K A b) (hl : l < 8) (hto : to < 48) (hx : ∀ i, i < 12 → J (b + 8) (l * 12 + i) = x i)
    (q : ∀ J', rfr 224 to J J' → (∀ i, i < 12 → rv J' 224 to i = x i) → Q () (K, I, J', A)) : wp (f_X13_lets (some 224) (zn l) (zn to)) Q (K, I, J, A) := by
  unfold f_X13_lets f_X13_lets_l2
  refine for1 (N := 12) (fun k I' J' => I' = I ∧ rfr 224 to J J' ∧ ∀ i, i < k → rv J' 224 to i = x i) ?_ ?_ (k := 0) (by omega) (by unfold fuel; omega) ⟨rfl, ⟨fun b _ _ => rfl, fun j _ => rfl⟩, fun i _ => by omega⟩
  · rintro k I' J' R' hk ⟨rfl, hf, hv⟩ hR'
    unfold f_X13_lets_b2
    rw [r12, show (12 : Int32) * zn l + zn k = zn (l * 12 + k) from by rw [show (12 : Int32) = zn 12 from rfl, zn_mul, zn_add, Nat.mul_comm]]
    refine wp_ifn (ge_f (b := 12) (by omega)) (b_getA hM.1 hM.2.1.1 (b_getA hM.1 h3 (b_getA hS.1 hS.2.1.2.2.2.2.2.2.2.1 (b_ldJ hS.2.2.1.2.2.2.2.2.2.2.1 (by omega) (by omega) (b_stJ hM.2.2.1.1 (by omega) (by omega) (by omega) (hR' _ _ ⟨rfl, ⟨fun b h1 h2 => ?_, fun j hj => ?_⟩, fun i hi => ?_⟩))))))
    · rw [st2_nb h1]; exact hf.1 b h1 h2
    · rw [st2_nk (by omega)]; exact hf.2 j hj
    · unfold rv
      by_cases hik : i = k
      · subst hik; rw [st2_at, hf.1 (b + 8) (by omega) (by omega)]; exact hx i hk
      · rw [st2_nk (by omega)]; exact hv i (by omega)
  · rintro I' J' R' ⟨rfl, hf, hv⟩
    unfold f_X13_lets_b2
    exact wp_ifp (ge_t (b := 12) (by omega)) (wp_rt (q J' hf hv))
theorem lf_t {B : BKD} {a : Int} (h : 0 ≤ a ∧ a < bnl B) : (if 0 ≤ a ∧ a < bnl B then zi (blf B a.toNat) else zi (-1)) = zn (blf B a.toNat) := by rw [if_pos h, zn_zi]
theorem lf_f {B : BKD} {a : Int} (h : ¬ (0 ≤ a ∧ a < bnl B)) : (if 0 ≤ a ∧ a < bnl B then zi (blf B a.toNat) else zi (-1)) = zi (-1) := by rw [if_neg h]
theorem t_fatn {f : Nat} (h : Core kw K I J A w) (hf : f < bnf w.2.1) : f_X0_fieldAt (some w.1) (zn f) (K, I, J, A) = some (some (w.1 + 16 + 4 * f), (K, I, J, A)) := by
  have h4 := h.ok.1.1
  rw [zn_zi, t_fat h (by omega), atF_t (by omega), Int.toNat_natCast]
theorem t_fatm (h : Core kw K I J A w) : f_X0_fieldAt (some w.1) (zi (-1)) (K, I, J, A) = some (none, (K, I, J, A)) := by
  rw [t_fat h (by omega), atF_f (by omega)]
theorem op_let {a b : Int} (hI : Core kw K I J A w) (ha : -2147483648 ≤ a ∧ a < 2147483648) (hb : -2147483648 ≤ b ∧ b < 2147483648) : Both (f_X10_let (some 64) (zi a) (zi b)) (f_X13_let (some 224) (zi a) (zi b)) (Post kw K A w) (K, I, J, A) := by
  unfold Both f_X10_let
  refine b_getA hI.k64 hI.a8 (b_getA hI.k64 hI.a8 (b_ck hI.cbs.1 (b_eq (t_letFieldAt hI.cbs hI.cb hI.ok ha) ?_)))
  by_cases hl : 0 ≤ a ∧ a < bnl w.2.1
  · rw [lf_t hl]
    have hl' : a.toNat < bnl w.2.1 := by omega
    have hff := (hI.ok.2.2.2 _ hl').1
    have hl8 := hI.ok.2.2.1
    obtain ⟨hF, hC, hpn, h4⟩ := hI.fld hff
    have hr := pn_rng hpn
    have hp := phi_rng hr.2.2.1 hr.2.2.2
    refine b_ck hI.cbs.1 (b_eq (t_fatn hI hff) (wp_ifn (by simp) ?_))
    have bad : ¬ (0 ≤ b ∧ b < phi (bfn w.2.1 (blf w.2.1 a.toNat))) → wp (f_X13_let (some 224) (zi a) (zi b)) (fun r' h2 => r' = -1000000000 ∧ Post kw K A w h2) (K, st2 I 64 11 1, J, A) := by
      intro hbad
      unfold f_X13_let
      refine r_start (hI).c (fun I1 hc h64 => ?_)
      refine b_ck hc.m0.1 (b_eq (t_isLet hc.m0.1 hc.rb hc.ok ha) ?_)
      rw [inb_t hl]
      obtain ⟨bk, fo, h3, hbk, hBS, hRBC, hfo, hfo2, hRF, hRC, q1, q2, q3⟩ := hc.rbl hl'
      rw [zi_nn hl.1]
      refine wp_ifn (by decide) (b_ck hc.m0.1 (b_eq (t_fieldOf hc.m0.1 h3 hBS (hRBC.2.2.2 _ hl').1 q1 q3 hfo) (b_getIv hRF.1 hRC.1.2.2.2 ?_)))
      rw [zn_pred1 (by omega)]
      refine b_eq (t_inN (lo := 0) hb (by omega) (by omega)) ?_
      rw [show (decide (((0 : Nat) : Int) ≤ b) && decide (b ≤ ((phi (bfn w.2.1 (blf w.2.1 a.toNat)) - 1 : Nat) : Int))) = false from by simp; omega]
      exact wp_ifp (by decide) (r_by hc.m0 ⟨rfl, fin hc (by rw [h64]; exact st2_at) rfl (by decide)⟩)
    by_cases h1 : b < 0
    · exact wp_ifp (ilt_t (b := 0) (by omega)) (e_ref hI.k64 (bad (by omega)))
    · refine wp_ifn (ilt_f (b := 0) (by omega)) (b_ck hF.1 (b_eq (t_rowLength hI.ot hF hC hpn) ?_))
      rw [zn_zi (phi _)]
      by_cases h2 : b < phi (bfn w.2.1 (blf w.2.1 a.toNat))
      · refine wp_ifp (ilt_t (by omega)) (b_getA hI.k64 hI.a8 (b_ck hI.cbs.1 ?_))
        rw [zi_nn hl.1, zi_nn (show 0 ≤ b by omega)]
        refine b_eq (t_letRowAt hI.cbs hI.cb hI.ok hl') (b_eq (t_atp (hI.cbs.2.2.2.1 _ (by omega)).2 (by omega) (by omega)) ?_)
        rw [(hI.cb.2.2.2 _ hl').2 _ (by omega)]
        refine e_ans hI.k64 ?_
        rw [← zi_nn hl.1, ← zi_nn (show 0 ≤ b by omega)]
        unfold f_X13_let
        refine r_start (hI).c (fun I1 hc h64 => ?_)
        refine b_ck hc.m0.1 (b_eq (t_isLet hc.m0.1 hc.rb hc.ok ha) ?_)
        rw [inb_t hl]
        obtain ⟨bk, fo, h3, hbk, hBS, hRBC, hfo, hfo2, hRF, hRC, q1, q2, q3⟩ := hc.rbl hl'
        rw [zi_nn hl.1]
        refine wp_ifn (by decide) (b_ck hc.m0.1 (b_eq (t_fieldOf hc.m0.1 h3 hBS (hRBC.2.2.2 _ hl').1 q1 q3 hfo) (b_getIv hRF.1 hRC.1.2.2.2 ?_)))
        rw [zn_pred1 (by omega)]
        refine b_eq (t_inN (lo := 0) hb (by omega) (by omega)) ?_
        rw [show (decide (((0 : Nat) : Int) ≤ b) && decide (b ≤ ((phi (bfn w.2.1 (blf w.2.1 a.toNat)) - 1 : Nat) : Int))) = true from by simp; omega]
        refine wp_ifn (by decide) (b_getA hc.m0.1 h3 (b_getA hBS.1 hBS.2.1.2.2.2.2.2.2.2.1 ?_))
        rw [zi_nn (show 0 ≤ b by omega), show (12 : Int32) * zn a.toNat + zn b.toNat = zn (a.toNat * 12 + b.toNat) from by rw [show (12 : Int32) = zn 12 from rfl, zn_mul, zn_add, Nat.mul_comm]]
        refine b_ldJ hBS.2.2.1.2.2.2.2.2.2.2.1 (by omega) (by omega) ?_
        rw [(hRBC.2.2.2 _ hl').2 _ (by omega)]
        exact r_good hc.m0 ⟨rfl, fin0 hc (by rw [h64]; exact st2_at)⟩
      · exact wp_ifn (ilt_f (by omega)) (e_ref hI.k64 (bad (by omega)))
  · rw [lf_f hl]
    refine b_ck hI.cbs.1 (b_eq (t_fatm hI) (wp_ifp rfl (e_ref hI.k64 ?_)))
    unfold f_X13_let
    refine r_start (hI).c (fun I1 hc h64 => ?_)
    refine b_ck hc.m0.1 (b_eq (t_isLet hc.m0.1 hc.rb hc.ok ha) ?_)
    rw [inb_f hl]
    exact wp_ifp (by decide) (r_by hc.m0 ⟨rfl, fin hc (by rw [h64]; exact st2_at) rfl (by decide)⟩)
theorem op_letField {a : Int} (hI : Core kw K I J A w) (ha : -2147483648 ≤ a ∧ a < 2147483648) : Both (f_X10_letField (some 64) (zi a)) (f_X13_letField (some 224) (zi a)) (Post kw K A w) (K, I, J, A) := by
  unfold Both f_X10_letField
  refine b_getA hI.k64 hI.a8 (b_ck hI.cbs.1 (b_eq (t_letFieldAt hI.cbs hI.cb hI.ok ha) ?_))
  by_cases hl : 0 ≤ a ∧ a < bnl w.2.1
  · rw [lf_t hl]
    have hl' : a.toNat < bnl w.2.1 := by omega
    have hff := (hI.ok.2.2.2 _ hl').1
    have hn4 := hI.ok.1.1
    refine wp_ifp (ge_t (b := 0) (by omega)) (e_ans hI.k64 ?_)
    unfold f_X13_letField
    refine r_start (hI).c (fun I1 hc h64 => ?_)
    refine b_ck hc.m0.1 (b_eq (t_isLet hc.m0.1 hc.rb hc.ok ha) ?_)
    rw [inb_t hl]
    obtain ⟨bk, fo, h3, hbk, hBS, hRBC, hfo, hfo2, hRF, hRC, q1, q2, q3⟩ := hc.rbl hl'
    rw [zi_nn hl.1]
    refine wp_ifn (by decide) (b_getA hc.m0.1 h3 (b_getA hBS.1 hBS.2.1.2.2.2.2.2.2.1 (b_ldI hBS.2.2.1.2.2.2.2.2.2.1 q1 (by omega) ?_)))
    rw [(hRBC.2.2.2 _ hl').1]
    exact r_good hc.m0 ⟨rfl, fin0 hc (by rw [h64]; exact st2_at)⟩
  · rw [lf_f hl]
    refine wp_ifn (ige_f (b := 0) (by omega)) (e_ref hI.k64 ?_)
    unfold f_X13_letField
    refine r_start (hI).c (fun I1 hc h64 => ?_)
    refine b_ck hc.m0.1 (b_eq (t_isLet hc.m0.1 hc.rb hc.ok ha) ?_)
    rw [inb_f hl]
    exact wp_ifp (by decide) (r_ref hc.m0 ⟨rfl, fin hc (by rw [h64]; exact st2_at) rfl (by decide)⟩)
theorem hug_row {x : Nat → Int64} (h : hug 10 x = false) (f : Nat → Int64) (hf : ∀ i, i < 10 → f i = x i) : bnd 10 1000000000 f := fun i hi => by
  rw [hf i hi]; have := hug_bnd h i hi; omega
theorem op_letPart {a b : Int} (hI : Core kw K I J A w) (ha : -2147483648 ≤ a ∧ a < 2147483648) (hb : -2147483648 ≤ b ∧ b < 2147483648) : Both (f_X10_letPart (some 64) (zi a) (zi b)) (f_X13_letPart (some 224) (zi a) (zi b)) (Post kw K A w) (K, I, J, A) := by
  unfold Both f_X10_letPart
  refine b_getA hI.k64 hI.a8 (b_getA hI.k64 hI.a8 (b_ck hI.cbs.1 (b_eq (t_letFieldAt hI.cbs hI.cb hI.ok ha) ?_)))
  by_cases hl : 0 ≤ a ∧ a < bnl w.2.1
  · rw [lf_t hl]
    have hl' : a.toNat < bnl w.2.1 := by omega
    obtain ⟨hff, hz, hh⟩ := hI.ok.2.2.2 _ hl'
    have hl8 := hI.ok.2.2.1
    obtain ⟨hF, hC, hpn, h4⟩ := hI.fld hff
    have hr := pn_rng hpn
    have hp := phi_rng hr.2.2.1 hr.2.2.2
    refine b_ck hI.cbs.1 (b_eq (t_fatn hI hff) (wp_ifn (by simp) (b_ck hF.1 (b_eq (t_hasTurn hF hC hpn hb) ?_))))
    cases hu : unit (bfn w.2.1 (blf w.2.1 a.toNat)) b with
    | false =>
      refine wp_ifn (by decide) (e_ref hI.k64 ?_)
      unfold f_X13_letPart
      refine r_start (hI).c (fun I1 hc h64 => ?_)
      refine b_ck hc.m0.1 (b_eq (t_isLet hc.m0.1 hc.rb hc.ok ha) ?_)
      rw [inb_t hl]
      obtain ⟨bk, fo, h3, hbk, hBS, hRBC, hfo, hfo2, hRF, hRC, q1, q2, q3⟩ := hc.rbl hl'
      rw [zi_nn hl.1]
      refine wp_ifp (by decide) (b_ck hc.m0.1 (b_eq (t_fieldOf hc.m0.1 h3 hBS (hRBC.2.2.2 _ hl').1 q1 q3 hfo) (b_ck hRF.1 (b_eq (t_isUnit hRF hRC hpn hb) ?_))))
      rw [hu]
      exact wp_ifn (by decide) (r_ref hc.m0 ⟨rfl, fin hc (by rw [h64]; exact st2_at) rfl (by decide)⟩)
    | true =>
      have hu' := unit_t hu
      refine wp_ifp (by decide) (b_getA hI.k64 hI.a8 (b_ck hI.cbs.1 ?_))
      rw [zi_nn hl.1, zi_nn (show 0 ≤ b by omega)]
      have hrow := (hI.cb.2.2.2 _ hl').2
      refine b_eq (t_letRowAt hI.cbs hI.cb hI.ok hl') (b_ck hF.1 (b_eq (t_partOf (B := 0) hI.ot hF hC hpn (by omega) (hI.cbs.2.2.2.1 _ (by omega)).2 (hug_row hh _ hrow)) (e_ans hI.k64 ?_)))
      rw [prt_congr (fun i hi => hrow i (by omega)), ← zi_nn hl.1, ← zi_nn (show 0 ≤ b by omega)]
      unfold f_X13_letPart
      refine r_start (hI).c (fun I1 hc h64 => ?_)
      refine b_ck hc.m0.1 (b_eq (t_isLet hc.m0.1 hc.rb hc.ok ha) ?_)
      rw [inb_t hl]
      obtain ⟨bk, fo, h3, hbk, hBS, hRBC, hfo, hfo2, hRF, hRC, q1, q2, q3⟩ := hc.rbl hl'
      rw [zi_nn hl.1]
      refine wp_ifp (by decide) (b_ck hc.m0.1 (b_eq (t_fieldOf hc.m0.1 h3 hBS (hRBC.2.2.2 _ hl').1 q1 q3 hfo) (b_ck hRF.1 (b_eq (t_isUnit hRF hRC hpn hb) ?_))))
      rw [hu]
      refine wp_ifp (by decide) (b_ck hc.m0.1 (wp_bd (t_lets (to := 0) hc.ms h3 hbk hBS q1 (by omega) (hRBC.2.2.2 _ hl').2 (fun J2 hf2 hv2 => b_ck hc.m0.1 (b_eq (t_fieldOf hc.m0.1 h3 hBS (hRBC.2.2.2 _ hl').1 q1 q3 hfo) (b_ck hc.m0.1 ?_))))))
      rw [zi_nn (show 0 ≤ b by omega)]
      refine b_eq (t_partOfR (a := 0) hc.ms hRF (hRC.mv (hf2.1 _ (by omega) (by omega))) hpn (by omega) (by omega) (hug_row hh _ (fun i hi => hv2 i (by omega)))) ?_
      rw [prt_congr (fun i hi => hv2 i (by omega))]
      exact r_good hc.m0 ⟨rfl, fin0 (hc.jr hf2) (by rw [h64]; exact st2_at)⟩
  · rw [lf_f hl]
    refine b_ck hI.cbs.1 (b_eq (t_fatm hI) (wp_ifp rfl (e_ref hI.k64 ?_)))
    unfold f_X13_letPart
    refine r_start (hI).c (fun I1 hc h64 => ?_)
    refine b_ck hc.m0.1 (b_eq (t_isLet hc.m0.1 hc.rb hc.ok ha) ?_)
    rw [inb_f hl]
    exact wp_ifn (by decide) (r_ref hc.m0 ⟨rfl, fin hc (by rw [h64]; exact st2_at) rfl (by decide)⟩)
theorem who_congr {N : Nat} {f g : Nat → Int64} (h : ∀ i, i < N → f i = g i) : who N f = who N g := by
  apply Bool.eq_iff_iff.mpr
  rw [who_iff, who_iff]
  constructor
  · intro q i h1 h2; rw [← h i h2]; exact q i h1 h2
  · intro q i h1 h2; rw [h i h2]; exact q i h1 h2
theorem op_whole {a : Int} (hI : Core kw K I J A w) (ha : -2147483648 ≤ a ∧ a < 2147483648) : Both (f_X10_whole (some 64) (zi a)) (f_X13_whole (some 224) (zi a)) (Post kw K A w) (K, I, J, A) := by
  unfold Both f_X10_whole
  refine b_getA hI.k64 hI.a8 (b_ck hI.cbs.1 (b_eq (t_letFieldAt hI.cbs hI.cb hI.ok ha) ?_))
  by_cases hl : 0 ≤ a ∧ a < bnl w.2.1
  · rw [lf_t hl]
    have hl' : a.toNat < bnl w.2.1 := by omega
    obtain ⟨hff, hz, hh⟩ := hI.ok.2.2.2 _ hl'
    have hn4 := hI.ok.1.1
    have hl8 := hI.ok.2.2.1
    have hrow := (hI.cb.2.2.2 _ hl').2
    refine wp_ifp (ge_t (b := 0) (by omega)) (b_getA hI.k64 hI.a8 (b_ck hI.cbs.1 ?_))
    rw [zi_nn hl.1]
    refine b_eq (t_letRowAt hI.cbs hI.cb hI.ok hl') (b_eq (t_isWhole (hI.cbs.2.2.2.1 _ (by omega)).2 (by omega)) ?_)
    rw [who_congr hrow]
    have run : ∀ v : Int32, v = (if who 10 (blr w.2.1 a.toNat) then 1 else 0) → wp (f_X13_whole (some 224) (zn a.toNat)) (fun r' h2 => r' = v ∧ Post kw K A w h2) (K, st2 I 64 11 0, J, A) := by
      intro v hv
      rw [← zi_nn hl.1]
      unfold f_X13_whole
      refine r_start (hI).c (fun I1 hc h64 => ?_)
      refine b_ck hc.m0.1 (b_eq (t_isLet hc.m0.1 hc.rb hc.ok ha) ?_)
      rw [inb_t hl]
      obtain ⟨bk, fo, h3, hbk, hBS, hRBC, hfo, hfo2, hRF, hRC, q1, q2, q3⟩ := hc.rbl hl'
      rw [zi_nn hl.1]
      refine wp_ifp (by decide) (b_ck hc.m0.1 (wp_bd (t_lets (to := 0) hc.ms h3 hbk hBS q1 (by omega) (hRBC.2.2.2 _ hl').2 (fun J2 hf2 hv2 => b_ck hc.m0.1 (b_eq (t_isWholeR (a := 0) hc.ms (by omega)) ?_)))))
      rw [who_congr hv2, ← who_12 (fun _ _ => rfl) ⟨hz 10 (by omega), hz 11 (by omega)⟩]
      cases hw : who 10 (blr w.2.1 a.toNat) with
      | false =>
        rw [hw] at hv
        exact wp_ifp (by decide) (r_good hc.m0 ⟨hv.symm, fin0 (hc.jr hf2) (by rw [h64]; exact st2_at)⟩)
      | true =>
        rw [hw] at hv
        exact wp_ifn (by decide) (r_good hc.m0 ⟨hv.symm, fin0 (hc.jr hf2) (by rw [h64]; exact st2_at)⟩)
    cases hw : who 10 (blr w.2.1 a.toNat) with
    | false => exact wp_ifp (by decide) (e_ans hI.k64 (run 0 (by rw [hw]; rfl)))
    | true => exact wp_ifn (by decide) (e_ans hI.k64 (run 1 (by rw [hw]; rfl)))
  · rw [lf_f hl]
    refine wp_ifn (ige_f (b := 0) (by omega)) (e_ref hI.k64 ?_)
    unfold f_X13_whole
    refine r_start (hI).c (fun I1 hc h64 => ?_)
    refine b_ck hc.m0.1 (b_eq (t_isLet hc.m0.1 hc.rb hc.ok ha) ?_)
    rw [inb_f hl]
    exact wp_ifn (by decide) (r_ref hc.m0 ⟨rfl, fin hc (by rw [h64]; exact st2_at) rfl (by decide)⟩)
/-! counts -/
theorem Core.eqn {i : Nat} (h : Core kw K I J A w) (hi : i < bne w.2.1) : ES K A (w.1 + 32 + 5 * i) ∧ EC I (w.1 + 32 + 5 * i) (bfp w.2.1 (bef w.2.1 i)) (beT w.2.1 i) (ber w.2.1 i) (bec w.2.1 i) (beu w.2.1 i) ∧ i < 4 ∧ bef w.2.1 i < bnf w.2.1 ∧ okE (bfp w.2.1 (bef w.2.1 i)) (beT w.2.1 i) (bec w.2.1 i) (beu w.2.1 i) ∧ ber w.2.1 i < bfp w.2.1 (bef w.2.1 i) ∧ pn (bfp w.2.1 (bef w.2.1 i)) (bfn w.2.1 (bef w.2.1 i)) ∧ bef w.2.1 i < 4 := by
  have ok := h.ok
  have h4 : i < 4 := Nat.lt_of_lt_of_le hi ok.2.1.1
  have he := ok.2.1.2 i hi
  exact ⟨(h.cbs.2.2.2.2.2 i h4).2, h.cb.2.2.1 i hi, h4, he.1, he.2.1, he.2.2, ok.1.2 _ he.1, by have := ok.1.1; have := he.1; omega⟩
theorem Core.eJ {i : Nat} (h : Core kw K I J A w) (hi : i < 4) (hf : ∀ b, b ≠ w.1 + 32 + 5 * i + 3 → b ≠ w.1 + 32 + 5 * i + 4 → J' b = J b) : Core kw K I J' A w := h.jj (fun b hb => hf b (fun e => hb (by unfold scrJ; omega)) (fun e => hb (by unfold scrJ; omega)))
theorem Core.m45 (h : Core kw K I J A w) (hf : ∀ b, b ≠ 224 + 4 → b ≠ 224 + 5 → I' b = I b) : Core kw K I' J A w := h.ii (fun b hb => hf b (by unfold scrI at hb; omega) (by unfold scrI at hb; omega))
theorem op_count {a : Int} (hI : Core kw K I J A w) (ha : -2147483648 ≤ a ∧ a < 2147483648) : Both (f_X10_count (some 64) (zi a)) (f_X13_count (some 224) (zi a)) (Post kw K A w) (K, I, J, A) := by
  unfold Both f_X10_count
  refine b_getA hI.k64 hI.a8 (b_ck hI.cbs.1 (b_eq (t_equationAt hI.cbs hI.cb hI.ok ha) ?_))
  by_cases he : 0 ≤ a ∧ a < bne w.2.1
  · rw [if_pos he]
    obtain ⟨hE, hEC, h4, hef, hok, hrp, hpn, hef4⟩ := hI.eqn (show a.toNat < bne w.2.1 by omega)
    have hr := pn_rng hpn
    refine wp_ifn (by simp) (b_ck hE.1 ?_)
    unfold f_X1_result
    refine b_assoc (b_getIv hE.1 hEC.2.2.1 (b_rt (b_ck hE.1 (wp_bd (t_ways hE hEC (by omega) hok hrp (fun J1 hf1 => e_ans hI.k64 ?_))))))
    have hI1 := hI.eJ h4 hf1
    unfold f_X13_count
    refine r_start (hI1).c (fun I1 hc h64 => ?_)
    refine b_ck hc.m0.1 (b_eq (t_isEquation hc.m0.1 hc.rb hc.ok ha) ?_)
    rw [inb_t he]
    obtain ⟨bk, fo, h3, hbk, hBS, hRBC, hfo, hfo2, hRF, hRC⟩ := hc.rfld hef
    rw [zi_nn he.1]
    refine wp_ifp (by decide) (b_ck hc.m0.1 (wp_bd (t_counts (n := 0) hc.ms hBS h3 (by omega) h4 (hRBC.2.2.1 _ (by omega)) hef4 hfo hRF hRC.1.1 (by omega) hok (fun I2 hf2 hv2 => b_getA hc.m0.1 hc.ms.2.1.2.2.2.1 (b_getA hc.m0.1 h3 (b_getA hBS.1 hBS.2.1.2.2.2.1 (b_ldI hBS.2.2.1.2.2.2.1 h4 (by omega) ?_)))))))
    rw [hf2 (bk + 4) (by omega) (by omega), (hRBC.2.2.1 _ (show a.toNat < bne w.2.1 by omega)).2.2.1]
    refine b_ldI hc.ms.2.2.1.2.2.2.1 (by omega) (by omega) ?_
    rw [hv2 _ hrp]
    refine r_good hc.m0 ⟨rfl, fin0 (hc.m45 hf2) ?_⟩
    rw [hf2 64 (by decide) (by decide), h64]; exact st2_at
  · rw [if_neg he]
    refine wp_ifp rfl (e_ref hI.k64 ?_)
    unfold f_X13_count
    refine r_start (hI).c (fun I1 hc h64 => ?_)
    refine b_ck hc.m0.1 (b_eq (t_isEquation hc.m0.1 hc.rb hc.ok ha) ?_)
    rw [inb_f he]
    exact wp_ifn (by decide) (r_ref hc.m0 ⟨rfl, fin hc (by rw [h64]; exact st2_at) rfl (by decide)⟩)
theorem op_countOf {a b : Int} (hI : Core kw K I J A w) (ha : -2147483648 ≤ a ∧ a < 2147483648) (hb : -2147483648 ≤ b ∧ b < 2147483648) : Both (f_X10_countOf (some 64) (zi a) (zi b)) (f_X13_countOf (some 224) (zi a) (zi b)) (Post kw K A w) (K, I, J, A) := by
  unfold Both f_X10_countOf
  refine b_getA hI.k64 hI.a8 (b_ck hI.cbs.1 (b_eq (t_equationAt hI.cbs hI.cb hI.ok ha) ?_))
  by_cases he : 0 ≤ a ∧ a < bne w.2.1
  · rw [if_pos he]
    obtain ⟨hE, hEC, h4, hef, hok, hrp, hpn, hef4⟩ := hI.eqn (show a.toNat < bne w.2.1 by omega)
    have hr := pn_rng hpn
    refine wp_ifn (by simp) ?_
    have bad : ¬ (0 ≤ b ∧ b < bfp w.2.1 (bef w.2.1 a.toNat)) → wp (f_X13_countOf (some 224) (zi a) (zi b)) (fun r' h2 => r' = -1 ∧ Post kw K A w h2) (K, st2 I 64 11 2, J, A) := by
      intro hbad
      unfold f_X13_countOf
      refine r_start (hI).c (fun I1 hc h64 => ?_)
      refine b_ck hc.m0.1 (b_eq (t_isEquation hc.m0.1 hc.rb hc.ok ha) ?_)
      rw [inb_t he]
      obtain ⟨bk, fo, h3, hbk, hBS, hRBC, hfo, hfo2, hRF, hRC⟩ := hc.rfld hef
      rw [zi_nn he.1]
      refine wp_ifp (by decide) (b_getA hc.m0.1 h3 (b_getA hBS.1 hBS.2.1.1 (b_getA hc.m0.1 h3 (b_getA hBS.1 hBS.2.1.2.1 (b_ldI hBS.2.2.1.2.1 h4 (by omega) ?_)))))
      rw [(hRBC.2.2.1 _ (show a.toNat < bne w.2.1 by omega)).1]
      refine b_ldA hBS.2.2.1.1 (by decide) hef4 (by omega) ?_
      rw [hfo]
      refine b_getIv hRF.1 hRC.1.1 ?_
      rw [zn_pred1 (by omega)]
      refine b_eq (t_inN (lo := 0) hb (by omega) (by omega)) ?_
      rw [show (decide (((0 : Nat) : Int) ≤ b) && decide (b ≤ ((bfp w.2.1 (bef w.2.1 a.toNat) - 1 : Nat) : Int))) = false from by simp; omega]
      exact wp_ifn (by decide) (r_ref hc.m0 ⟨rfl, fin hc (by rw [h64]; exact st2_at) rfl (by decide)⟩)
    by_cases h1 : b < 0
    · exact wp_ifp (ilt_t (b := 0) (by omega)) (e_ref hI.k64 (bad (by omega)))
    · refine wp_ifn (ilt_f (b := 0) (by omega)) (b_ck hE.1 ?_)
      unfold f_X1_prime
      refine b_assoc (b_getIv hE.1 hEC.1 (b_rt ?_))
      rw [zn_zi (bfp _ _)]
      by_cases h2 : b < bfp w.2.1 (bef w.2.1 a.toNat)
      · refine wp_ifp (ilt_t (by omega)) (b_ck hE.1 ?_)
        rw [zi_nn (show 0 ≤ b by omega)]
        refine wp_bd (t_ways hE hEC (by omega) hok (by omega) (fun J1 hf1 => e_ans hI.k64 ?_))
        rw [← zi_nn (show 0 ≤ b by omega)]
        have hI1 := hI.eJ h4 hf1
        unfold f_X13_countOf
        refine r_start (hI1).c (fun I1 hc h64 => ?_)
        refine b_ck hc.m0.1 (b_eq (t_isEquation hc.m0.1 hc.rb hc.ok ha) ?_)
        rw [inb_t he]
        obtain ⟨bk, fo, h3, hbk, hBS, hRBC, hfo, hfo2, hRF, hRC⟩ := hc.rfld hef
        rw [zi_nn he.1]
        refine wp_ifp (by decide) (b_getA hc.m0.1 h3 (b_getA hBS.1 hBS.2.1.1 (b_getA hc.m0.1 h3 (b_getA hBS.1 hBS.2.1.2.1 (b_ldI hBS.2.2.1.2.1 h4 (by omega) ?_)))))
        rw [(hRBC.2.2.1 _ (show a.toNat < bne w.2.1 by omega)).1]
        refine b_ldA hBS.2.2.1.1 (by decide) hef4 (by omega) ?_
        rw [hfo]
        refine b_getIv hRF.1 hRC.1.1 ?_
        rw [zn_pred1 (by omega)]
        refine b_eq (t_inN (lo := 0) hb (by omega) (by omega)) ?_
        rw [show (decide (((0 : Nat) : Int) ≤ b) && decide (b ≤ ((bfp w.2.1 (bef w.2.1 a.toNat) - 1 : Nat) : Int))) = true from by simp; omega]
        refine wp_ifp (by decide) (b_ck hc.m0.1 (wp_bd (t_counts (n := 0) hc.ms hBS h3 (by omega) h4 (hRBC.2.2.1 _ (by omega)) hef4 hfo hRF hRC.1.1 (by omega) hok (fun I2 hf2 hv2 => b_getA hc.m0.1 hc.ms.2.1.2.2.2.1 ?_))))
        rw [zi_nn (show 0 ≤ b by omega)]
        refine b_ldI hc.ms.2.2.1.2.2.2.1 (by omega) (by omega) ?_
        rw [hv2 _ (by omega)]
        refine r_good hc.m0 ⟨rfl, fin0 (hc.m45 hf2) ?_⟩
        rw [hf2 64 (by decide) (by decide), h64]; exact st2_at
      · exact wp_ifn (ilt_f (by omega)) (e_ref hI.k64 (bad (by omega)))
  · rw [if_neg he]
    refine wp_ifp rfl (e_ref hI.k64 ?_)
    unfold f_X13_countOf
    refine r_start (hI).c (fun I1 hc h64 => ?_)
    refine b_ck hc.m0.1 (b_eq (t_isEquation hc.m0.1 hc.rb hc.ok ha) ?_)
    rw [inb_f he]
    exact wp_ifn (by decide) (r_ref hc.m0 ⟨rfl, fin hc (by rw [h64]; exact st2_at) rfl (by decide)⟩)
end
