/-! ===== registers: the calls ===== -/
def PostE (kw : Nat → Int64) (K : List (Nat × Nat)) (A : Nat → Nat → Option Nat) (h : Hp) : Prop := ∃ w, Post kw K A w h
theorem Post.e {kw : Nat → Int64} {K : List (Nat × Nat)} {A : Nat → Nat → Option Nat} {w : WD} {h : Hp} (p : Post kw K A w h) : PostE kw K A h := ⟨w, p⟩
section
variable {β : Type} {kw : Nat → Int64} {K : List (Nat × Nat)} {I I' : Nat → Nat → Int32} {J J' : Nat → Nat → Int64} {A : Nat → Nat → Option Nat} {w : WD}
def CDone (I : Nat → Nat → Int32) (J : Nat → Nat → Int64) (I1 : Nat → Nat → Int32) (J1 : Nat → Nat → Int64) (w : WD) (tr : Nat) (S : RSt) (u : Nat) (U : Nat → RSt) (r : Nat) (R : Nat → RSt) (k : Nat) (M : Nat → RSt) : Prop :=
  (∀ b, ¬ scrI w.1 b → b ≠ 162 → b ≠ 64 → I1 b = I b) ∧ (∀ j, j ≠ 11 → I1 64 j = I 64 j) ∧ I1 64 11 = zn tr ∧ (∀ b, ¬ scrJ w.1 b → b ≠ 163 → b ≠ 164 → J1 b = J b) ∧ RGC I1 J1 162 S u U r R k M
def RDone (I1 : Nat → Nat → Int32) (J1 : Nat → Nat → Int64) (I2 : Nat → Nat → Int32) (J2 : Nat → Nat → Int64) (w : WD) (tr : Nat) (S : RSt) (u : Nat) (U : Nat → RSt) (r : Nat) (R : Nat → RSt) (k : Nat) (M : Nat → RSt) : Prop :=
  (∀ b, ¬ scrI w.1 b → b ≠ 224 → I2 b = I1 b) ∧ (∀ j, 3 ≤ j → j ≠ 28 → j ≠ 29 → j ≠ 30 → I2 224 j = I1 224 j) ∧ I2 224 1 = zn tr ∧ I2 224 2 = -1 ∧ (∀ b, ¬ scrJ w.1 b → b ≠ 231 → b ≠ 232 → b ≠ 233 → b ≠ 234 → J2 b = J1 b) ∧ RGR I2 J2 224 S u U r R k M
/-- the reference's part, once the class is done -/
def RCore (K : List (Nat × Nat)) (I : Nat → Nat → Int32) (J : Nat → Nat → Int64) (A : Nat → Nat → Option Nat) (w : WD) : Prop := MS K A 224 ∧ RBk K I J A w.2.1 ∧ okB w.2.1 ∧ RGR I J 224 w.2.2.1 w.2.2.2.1.1 w.2.2.2.1.2 w.2.2.2.2.1.1 w.2.2.2.2.1.2 w.2.2.2.2.2.1.1 w.2.2.2.2.2.1.2
theorem Core.rgc (h : Core kw K I J A w) : RGC I J 162 w.2.2.1 w.2.2.2.1.1 w.2.2.2.1.2 w.2.2.2.2.1.1 w.2.2.2.2.1.2 w.2.2.2.2.2.1.1 w.2.2.2.2.2.1.2 := h.2.2.1.1
theorem Core.rgr (h : Core kw K I J A w) : RGR I J 224 w.2.2.1 w.2.2.2.1.1 w.2.2.2.1.2 w.2.2.2.2.1.1 w.2.2.2.2.1.2 w.2.2.2.2.2.1.1 w.2.2.2.2.2.1.2 := h.2.2.1.2.1
theorem Core.oS (h : Core kw K I J A w) : okS (bnf w.2.1) w.2.2.1 := h.2.2.1.2.2.1
theorem Core.oU (h : Core kw K I J A w) : ∀ j, j < w.2.2.2.1.1 → okS (bnf w.2.1) (w.2.2.2.1.2 j) := h.2.2.1.2.2.2.1
theorem Core.oR (h : Core kw K I J A w) : ∀ j, j < w.2.2.2.2.1.1 → okS (bnf w.2.1) (w.2.2.2.2.1.2 j) := h.2.2.1.2.2.2.2.1
theorem Core.oM (h : Core kw K I J A w) : ∀ j, j < w.2.2.2.2.2.1.1 → okS (bnf w.2.1) (w.2.2.2.2.2.1.2 j) := h.2.2.1.2.2.2.2.2.1
theorem Core.kz (h : Core kw K I J A w) : bnf w.2.1 = 0 → w.2.2.2.1.1 + w.2.2.2.2.1.1 + w.2.2.2.2.2.1.1 = 0 := h.2.2.1.2.2.2.2.2.2
theorem RBk.mv {B : BKD} (h : RBk K I J A B) (hI : ∀ b, 236 ≤ b → I' b = I b) (hJ : ∀ b, 236 ≤ b → J' b = J b) : RBk K I' J' A B := by
  rcases h with b2 | ⟨b, y1, y2, y3, ⟨⟨x1, x2, x3⟩, x4, x5, x6⟩, y5⟩
  · exact Or.inl b2
  · refine Or.inr ⟨b, y1, y2, y3, ⟨⟨?_, ?_, ?_⟩, fun f hf => ?_, fun i hi => ?_, fun l hl => ⟨?_, fun i hi => ?_⟩⟩, y5⟩
    · rw [hI b (by omega)]; exact x1
    · rw [hI b (by omega)]; exact x2
    · rw [hI b (by omega)]; exact x3
    · obtain ⟨fo, z1, z2, z3, z4⟩ := x4 f hf
      exact ⟨fo, z1, z2, z3, (z4.mvI (hI _ (by omega)) (hI _ (by omega))).mv (hJ _ (by omega))⟩
    · obtain ⟨z1, z2, z3, z4⟩ := x5 i hi
      exact ⟨by rw [hI _ (by omega)]; exact z1, by rw [hI _ (by omega)]; exact z2, by rw [hI _ (by omega)]; exact z3, fun t ht => ⟨by rw [hI _ (by omega)]; exact (z4 t ht).1, by rw [hI _ (by omega)]; exact (z4 t ht).2⟩⟩
    · rw [hI _ (by omega)]; exact (x6 l hl).1
    · rw [hJ _ (by omega)]; exact (x6 l hl).2 i hi
theorem done {I1 I2 : Nat → Nat → Int32} {J1 J2 : Nat → Nat → Int64} {tr : Nat} {S : RSt} {u : Nat} {U : Nat → RSt} {r : Nat} {R : Nat → RSt} {k : Nat} {M : Nat → RSt} (h : Core kw K I J A w) (hC : CDone I J I1 J1 w tr S u U r R k M) (hR : RDone I1 J1 I2 J2 w tr S u U r R k M) (htr : tr < 100 ∧ tr ≠ 4)
    (oS : okS (bnf w.2.1) S) (oU : ∀ j, j < u → okS (bnf w.2.1) (U j)) (oR : ∀ j, j < r → okS (bnf w.2.1) (R j)) (oM : ∀ j, j < k → okS (bnf w.2.1) (M j)) (oK : bnf w.2.1 = 0 → u + r + k = 0) : PostE kw K A (K, I2, J2, A) := by
  obtain ⟨c1, c2, c3, c4, c5⟩ := hC
  obtain ⟨r1, r2, r3, r4, r5, r6⟩ := hR
  refine ⟨(w.1, w.2.1, S, (u, U), (r, R), (k, M), w.2.2.2.2.2.2), I2, J2, tr, rfl, ?_, htr.1, ?_, r3, ?_⟩
  · obtain ⟨nb, B, w⟩ := w
    unfold Core at h ⊢
    unfold scrI at c1 r1
    unfold scrJ at c4 r5
    dsimp only at h c1 c4 r1 r5 oS oU oR oM oK ⊢
    obtain ⟨⟨a1, a2, a3, a4⟩, ⟨b1, b2⟩, ⟨g1, g2, g3⟩, ⟨d1, d2, d3, d4⟩, ⟨e1, e2, e3, e4⟩⟩ := h
    have hnb := a1.1
    have ok := a4
    obtain ⟨⟨o1, o2⟩, ⟨o3, o4⟩, ⟨o5, o6⟩⟩ := ok
    have hI : ∀ b, ¬ (b = 165 ∨ b = 166 ∨ b = 167 ∨ b = 228 ∨ b = 229 ∨ b = 230 ∨ b = nb + 19 ∨ b = nb + 23 ∨ b = nb + 27 ∨ b = nb + 31) → b ≠ 162 → b ≠ 64 → b ≠ 224 → I2 b = I b := fun b h1 h2 h3 h4 => (r1 b h1 h4).trans (c1 b h1 h2 h3)
    have hJ : ∀ b, ¬ (b = 161 ∨ b = 168 ∨ b = 169 ∨ b = 170 ∨ b = 171 ∨ b = 225 ∨ b = 226 ∨ b = nb + 35 ∨ b = nb + 36 ∨ b = nb + 40 ∨ b = nb + 41 ∨ b = nb + 45 ∨ b = nb + 46 ∨ b = nb + 50 ∨ b = nb + 51) → b ≠ 163 → b ≠ 164 → b ≠ 231 → b ≠ 232 → b ≠ 233 → b ≠ 234 → J2 b = J b := fun b h1 h2 h3 h4 h5 h6 h7 => (r5 b h1 h4 h5 h6 h7).trans (c4 b h1 h2 h3)
    have h64 : ∀ j, j ≠ 11 → I2 64 j = I 64 j := fun j hj => by rw [r1 64 (by omega) (by omega)]; exact c2 j hj
    refine ⟨⟨a1, a2, ?_, a4⟩, ⟨?_, ?_⟩, ⟨?_, r6, oS, oU, oR, oM, oK⟩, ⟨d1, ?_, ?_, fun i hi => ?_⟩, ⟨?_, ?_, ?_, fun i hi => ?_⟩⟩
    · obtain ⟨x1, x2, x3, x4⟩ := a3
      exact ⟨x1, x2, fun k => by rw [hI 0 (by omega) (by omega) (by omega) (by omega)]; exact x3 k, fun k => by rw [hI 1 (by omega) (by omega) (by omega) (by omega)]; exact x4 k⟩
    · obtain ⟨⟨x1, x2, x3⟩, x4, x5, x6⟩ := b1
      refine ⟨⟨?_, ?_, ?_⟩, fun f hf => ?_, fun i hi => ?_, fun l hl => ⟨?_, fun i hi => ?_⟩⟩
      · rw [hI nb (by omega) (by omega) (by omega) (by omega)]; exact x1
      · rw [hI nb (by omega) (by omega) (by omega) (by omega)]; exact x2
      · rw [hI nb (by omega) (by omega) (by omega) (by omega)]; exact x3
      · exact (x4 f hf).mv (hI _ (by omega) (by omega) (by omega) (by omega)) (hI _ (by omega) (by omega) (by omega) (by omega)) (hI _ (by omega) (by omega) (by omega) (by omega))
      · exact (x5 i hi).mv (hI _ (by omega) (by omega) (by omega) (by omega)) (hI _ (by omega) (by omega) (by omega) (by omega)) (hI _ (by omega) (by omega) (by omega) (by omega))
      · rw [hI _ (by omega) (by omega) (by omega) (by omega)]; exact (x6 l hl).1
      · rw [hJ _ (by omega) (by omega) (by omega) (by omega) (by omega) (by omega) (by omega)]; exact (x6 l hl).2 i hi
    · exact b2.mv (fun b hb => hI b (by omega) (by omega) (by omega) (by omega)) (fun b hb => hJ b (by omega) (by omega) (by omega) (by omega) (by omega) (by omega) (by omega))
    · exact c5.mv (r1 162 (by omega) (by omega)) (r5 163 (by omega) (by omega) (by omega) (by omega) (by omega)) (r5 164 (by omega) (by omega) (by omega) (by omega) (by omega))
    · rw [hI _ (by omega) (by omega) (by omega) (by omega)]; exact d2
    · rw [r2 _ (by omega) (by omega) (by omega) (by omega), c1 _ (by omega) (by omega) (by omega)]; exact d3
    · rw [hI 67 (by omega) (by omega) (by omega) (by omega), hI 227 (by omega) (by omega) (by omega) (by omega)]; exact d4 i hi
    · rw [h64 _ (by omega)]; exact e1
    · rw [r2 _ (by omega) (by omega) (by omega) (by omega), c1 _ (by omega) (by omega) (by omega)]; exact e2
    · rw [h64 _ (by omega)]; exact e3
    · rw [hJ _ (by omega) (by omega) (by omega) (by omega) (by omega) (by omega) (by omega)]; exact e4 i hi
  · have hnb := h.nb
    rw [r1 64 (by unfold scrI; omega) (by omega)]; exact c3
  · rw [r4, if_neg htr.2]
theorem Core.rc {I1 : Nat → Nat → Int32} {J1 : Nat → Nat → Int64} {tr : Nat} {S : RSt} {u : Nat} {U : Nat → RSt} {r : Nat} {R : Nat → RSt} {k : Nat} {M : Nat → RSt} (h : Core kw K I J A w) (hC : CDone I J I1 J1 w tr S u U r R k M) : RCore K I1 J1 A w := by
  have hnb := h.nb
  obtain ⟨c1, c2, c3, c4, c5⟩ := hC
  refine ⟨h.ms, h.rb.mv (fun b hb => c1 b (by unfold scrI; omega) (by omega) (by omega)) (fun b hb => c4 b (by unfold scrJ; omega) (by omega) (by omega)), h.ok, h.rgr.mv (fun j _ => by rw [c1 224 (by unfold scrI; omega) (by omega) (by omega)]) ?_ ?_ ?_ ?_⟩
  · exact c4 _ (by unfold scrJ; omega) (by omega) (by omega)
  · exact c4 _ (by unfold scrJ; omega) (by omega) (by omega)
  · exact c4 _ (by unfold scrJ; omega) (by omega) (by omega)
  · exact c4 _ (by unfold scrJ; omega) (by omega) (by omega)
/-- the reference's run begins -/
theorem r_startR {Q : β → Hp → Prop} {G : Unit → Mo β} (h : RCore K I J A w) (q : ∀ I', RCore K I' J A w → (∀ b, b ≠ 224 → I' b = I b) → (∀ j, 3 ≤ j → I' 224 j = I 224 j) → wp (G ()) Q (K, I', J, A)) : wp (mBd (mPutI 11 0 (some 224) 0) G) Q (K, I, J, A) :=
  b_putI h.1.1 (by decide) (q _ ⟨h.1, h.2.1.mv (fun b hb => st2_nb (by omega)) (fun _ _ => rfl), h.2.2.1, h.2.2.2.mv (fun j hj => st2_nk (by omega)) rfl rfl rfl rfl⟩ (fun b hb => st2_nb hb) (fun j hj => st2_nk (by omega)))
theorem t_isRegister {v : Int} (hm : kk K 224 = (0, 11)) (hB : RBk K I J A w.2.1) (hv : -2147483648 ≤ v ∧ v < 2147483648) : f_X13_isRegister (some 224) (zi v) (K, I, J, A) = some (b01 (decide (0 < bnf w.2.1) && (decide (0 ≤ v) && decide (v < 4))), (K, I, J, A)) := by
  apply wp_get
  unfold f_X13_isRegister
  rcases hB with ⟨h3, h0, _⟩ | ⟨b, h3, _, hS, hC, h1⟩
  · refine b_getA hm h3 (wp_ifp rfl (wp_rt ⟨?_, rfl⟩))
    rw [show decide (0 < bnf w.2.1) = false from by rw [h0]; rfl, Bool.false_and]; rfl
  · refine b_getA hm h3 (wp_ifn (by simp) (b_eq (t_inN (lo := 0) (hi := 3) hv (by omega) (by omega)) ?_))
    rw [show decide (0 < bnf w.2.1) = true from by simp; omega, Bool.true_and]
    by_cases h : 0 ≤ v ∧ v < 4
    · rw [show (decide (((0 : Nat) : Int) ≤ v) && decide (v ≤ ((3 : Nat) : Int))) = true from by simp; omega, inb_t h]
      exact wp_ifn (by decide) (wp_rt ⟨rfl, rfl⟩)
    · rw [show (decide (((0 : Nat) : Int) ≤ v) && decide (v ≤ ((3 : Nat) : Int))) = false from by simp; omega, inb_f h]
      exact wp_ifp (by decide) (wp_rt ⟨rfl, rfl⟩)
/-- the class's field of a register -/
def foR (nb : Nat) (w : WD) (v : Int) : Option Nat := if (0 ≤ v ∧ v < 4) ∧ 0 < bnf w.2.1 then some (nb + 16 + 4 * w.2.2.1.1) else none
theorem t_for {v : Int} (h : Core kw K I J A w) (hv : -2147483648 ≤ v ∧ v < 2147483648) : f_X10_fieldOfRegister (some 64) (zi v) (K, I, J, A) = some (foR w.1 w v, (K, I, J, A)) := by
  apply wp_get
  have oS := h.oS.1
  have hn4 := h.ok.1.1
  unfold f_X10_fieldOfRegister f_X4_has foR
  refine b_getA h.k64 (a64 h).2.2.1 (b_ck h.gs.1 ?_)
  by_cases h1 : v < 0
  · refine b_ite (wp_ifp (ilt_t (b := 0) (by omega)) (b_rt (wp_ifp rfl (wp_rt ⟨?_, rfl⟩))))
    rw [if_neg (by omega)]
  · refine b_ite (wp_ifn (ilt_f (b := 0) (by omega)) (b_ite ?_))
    by_cases h2 : 4 ≤ v
    · refine wp_ifp (ige_t (b := 4) (by omega)) (b_rt (wp_ifp rfl (wp_rt ⟨?_, rfl⟩)))
      rw [if_neg (by omega)]
    · refine wp_ifn (ige_f (b := 4) (by omega)) (b_rt (wp_ifn (by decide) (b_getA h.k64 h.a8 (b_getA h.k64 (a64 h).2.2.1 (b_ck h.gs.1 (b_eq (t_fieldNow h.gs h.rgc) (b_ck h.cbs.1 ?_)))))))
      rw [zn_zi]
      refine b_eq (t_fat h (by omega)) (wp_rt ⟨?_, rfl⟩)
      unfold atF
      by_cases h3 : 0 < bnf w.2.1
      · rw [if_pos (by omega), if_pos (by omega), Int.toNat_natCast]
      · rw [if_neg (by omega), if_neg (by omega)]
theorem foR_t {nb : Nat} {v : Int} (h : (0 ≤ v ∧ v < 4) ∧ 0 < bnf w.2.1) : foR nb w v = some (nb + 16 + 4 * w.2.2.1.1) := if_pos h
theorem foR_f {nb : Nat} {v : Int} (h : ¬ ((0 ≤ v ∧ v < 4) ∧ 0 < bnf w.2.1)) : foR nb w v = none := if_neg h
theorem reg_t {v : Int} (h : (0 ≤ v ∧ v < 4) ∧ 0 < bnf w.2.1) : (decide (0 < bnf w.2.1) && (decide (0 ≤ v) && decide (v < 4))) = true := by simp; omega
theorem reg_f {v : Int} (h : ¬ ((0 ≤ v ∧ v < 4) ∧ 0 < bnf w.2.1)) : (decide (0 < bnf w.2.1) && (decide (0 ≤ v) && decide (v < 4))) = false := by
  rw [← Bool.not_eq_true]
  intro q
  simp only [Bool.and_eq_true, decide_eq_true_eq] at q
  omega
/-- the reference's field now chosen -/
theorem RCore.cho (h : RCore K I J A w) (oS : okS (bnf w.2.1) w.2.2.1) (hn : 0 < bnf w.2.1) : ∃ b fo, A 224 3 = some b ∧ 236 ≤ b ∧ BS K A b ∧ RBC K I J A b w.2.1 ∧ 236 ≤ fo ∧ RFS K A fo ∧ RFC I J fo (bfp w.2.1 w.2.2.1.1) (bfn w.2.1 w.2.2.1.1) ∧ f_X13_chosen (some 224) (K, I, J, A) = some (some fo, (K, I, J, A)) ∧ pn (bfp w.2.1 w.2.2.1.1) (bfn w.2.1 w.2.2.1.1) ∧ A (b + 1) w.2.2.1.1 = some fo := by
  have hlt : w.2.2.1.1 < bnf w.2.1 := by rcases oS.1 with q | q <;> omega
  have h4 := h.2.2.1.1.1
  obtain ⟨b, fo, h3, hb, hS, hC, hfo, hfo2, hF, hRC⟩ := h.2.1.fld hlt
  refine ⟨b, fo, h3, hb, hS, hC, hfo2, hF, hRC, ?_, h.2.2.1.1.2 _ hlt, hfo⟩
  apply wp_get
  unfold f_X13_chosen
  have e : J (224 + 7) 0 = zj w.2.2.1.1 := h.2.2.2.2.2.1.1
  refine b_getA h.1.1 h3 (b_getA hS.1 hS.2.1.1 (b_getA h.1.1 h.1.2.1.2.2.2.2.2.2.1 (b_ldJ (j := 0) h.1.2.2.1.2.2.2.2.2.2.1 (by omega) (by omega) ?_)))
  rw [e, zj_32, ← zn_zi]
  exact b_ldA hS.2.2.1.1 (by decide) (by omega) (by omega) (wp_rt ⟨hfo, rfl⟩)
theorem Core.toR (h : Core kw K I J A w) : RCore K I J A w := ⟨h.ms, h.rb, h.ok, h.rgr⟩
/-- a row is kept in the class: too great, or an act -/
theorem t_keep {Q : Int32 → Hp → Prop} {t x : Nat} {y : Nat → Int64} (h : Core kw K I J A w) (ht : t < 4) (hx : kk K x = (2, 10)) (hxg : x ≠ 163) (hy : ∀ i, i < 10 → J x i = y i)
    (q0 : hug 10 y = true → Q 0 (K, st2 I 64 11 7, J, A)) (q1 : hug 10 y = false → ∀ I1 J1, CDone I J I1 J1 w 0 (putR w.2.2.1 t y) (actN w.2.2.2.1.1) (actF w.2.2.2.1.1 w.2.2.2.1.2 w.2.2.1) 0 w.2.2.2.2.1.2 w.2.2.2.2.2.1.1 w.2.2.2.2.2.1.2 → Q 1 (K, I1, J1, A)) : wp (f_X10_keep (some 64) (zn t) (some x)) Q (K, I, J, A) := by
  have hnb := h.nb
  unfold f_X10_keep
  refine b_eq (t_isHuge hx (by omega)) ?_
  rw [hug_congr hy]
  cases hh : hug 10 y with
  | true => exact wp_ifn (by decide) (e_den h.k64 (q0 hh))
  | false =>
    refine wp_ifp (by decide) (b_getA h.k64 (a64 h).2.2.1 (b_ck h.gs.1 (wp_bd (t_beginAct h.gs h.rgc (fun I1 J1 hf1 hj1 hC1 => b_getA h.k64 (a64 h).2.2.1 (b_ck h.gs.1 (wp_bd (t_copyIn h.gs hC1 ht hx hxg (w := y) (fun i hi => by rw [hj1 x hxg]; exact hy i hi) (fun J2 hj2 hC2 => e_gra h.k64 (q1 hh _ _ ?_))))))))))
    refine ⟨fun b h1 h2 h3 => ?_, fun j hj => ?_, st2_at, fun b h1 h2 h3 => ?_, hC2.mv (st2_nb (by decide)) rfl rfl⟩
    · rw [st2_nb h3]; exact hf1 b h2
    · rw [st2_nk hj, hf1 64 (by decide)]
    · rw [hj2 b h2, hj1 b h2]
/-- the reference stores a row -/
theorem t_storesD {Q : Int32 → Hp → Prop} {t fr : Nat} {y : Nat → Int64} (h : RCore K I J A w) (hnb : w.1 = 104 ∨ w.1 = 172) (ht : t < 4) (hfr : fr < 48) (hy : ∀ i, i < 12 → rv J 224 fr i = y i)
    (q : ∀ I2 J2, RDone I J I2 J2 w 0 (putR w.2.2.1 t y) (actN w.2.2.2.1.1) (actF w.2.2.2.1.1 w.2.2.2.1.2 w.2.2.1) 0 w.2.2.2.2.1.2 w.2.2.2.2.2.1.1 w.2.2.2.2.2.1.2 → Q 1 (K, I2, J2, A)) : wp (f_X13_stores (some 224) (zn fr) (zn t)) Q (K, I, J, A) := by
  refine t_stores h.1 h.2.2.2 ht hfr hy (fun I2 J2 hf1 hf2 h1 h2 hj hG => q I2 J2 ⟨fun b _ hb => hf1 b hb, fun j a1 a2 a3 a4 => hf2 j (by omega) (by omega) a2 a3, h1, h2, fun b _ a1 a2 _ _ => hj b a1 a2, hG⟩)
theorem RDone.pre {I1 I1' I2 : Nat → Nat → Int32} {J1 J1' J2 : Nat → Nat → Int64} {tr : Nat} {S : RSt} {u : Nat} {U : Nat → RSt} {r : Nat} {R : Nat → RSt} {k : Nat} {M : Nat → RSt} (h : RDone I1' J1' I2 J2 w tr S u U r R k M) (a : ∀ b, b ≠ 224 → I1' b = I1 b) (b : ∀ j, 3 ≤ j → I1' 224 j = I1 224 j) (c : ∀ b, ¬ scrJ w.1 b → J1' b = J1 b) : RDone I1 J1 I2 J2 w tr S u U r R k M := by
  obtain ⟨r1, r2, r3, r4, r5, r6⟩ := h
  exact ⟨fun x h1 h2 => (r1 x h1 h2).trans (a x h2), fun j h1 h2 h3 h4 => (r2 j h1 h2 h3 h4).trans (b j h1), r3, r4, fun x h1 h2 h3 h4 h5 => (r5 x h1 h2 h3 h4 h5).trans (c x h1), r6⟩
theorem RCore.jr {to : Nat} (h : RCore K I J A w) (hf : rfr 224 to J J') : RCore K I J' A w := ⟨h.1, h.2.1.mv (fun _ _ => rfl) (fun b hb => hf.1 b (by omega) (by omega)), h.2.2.1, h.2.2.2.mv (fun _ _ => rfl) (hf.1 _ (by decide) (by decide)) (hf.1 _ (by decide) (by decide)) (hf.1 _ (by decide) (by decide)) (hf.1 _ (by decide) (by decide))⟩
theorem jrS {nb to : Nat} {J J' : Nat → Nat → Int64} (hf : rfr 224 to J J') : ∀ b, ¬ scrJ nb b → J' b = J b := fun b hb => hf.1 b (by unfold scrJ at hb; omega) (by unfold scrJ at hb; omega)
/-- class scratch rows before the class is done -/
theorem CDone.pre {I1 : Nat → Nat → Int32} {J1 J' : Nat → Nat → Int64} {tr : Nat} {S : RSt} {u : Nat} {U : Nat → RSt} {r : Nat} {R : Nat → RSt} {k : Nat} {M : Nat → RSt} (h : CDone I J' I1 J1 w tr S u U r R k M) (c : ∀ b, ¬ scrJ w.1 b → J' b = J b) : CDone I J I1 J1 w tr S u U r R k M := by
  obtain ⟨c1, c2, c3, c4, c5⟩ := h
  exact ⟨c1, c2, c3, fun b h1 h2 h3 => (c4 b h1 h2 h3).trans (c b h1), c5⟩
end
