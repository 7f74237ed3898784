/-! ===== the calls, class and reference side by side: helpers ===== -/
def Both {α : Type} (F G : Mo α) (P : Hp → Prop) (h : Hp) : Prop := wp F (fun r h1 => wp G (fun r' h2 => r' = r ∧ P h2) h1) h
def Post (kw : Nat → Int64) (K : List (Nat × Nat)) (A : Nat → Nat → Option Nat) (w : WD) (h : Hp) : Prop := ∃ I' J' tr, h = (K, I', J', A) ∧ Core kw K I' J' A w ∧ Tr I' w tr
section
variable {β : Type} {kw : Nat → Int64} {K : List (Nat × Nat)} {I I' : Nat → Nat → Int32} {J J' : Nat → Nat → Int64} {A : Nat → Nat → Option Nat} {w : WD}
theorem Core.sh (h : Core kw K I J A w) : CSh K A w.1 := h.1.1
theorem Core.ms (h : Core kw K I J A w) : MS K A 224 := h.1.2.1
theorem Core.ot (h : Core kw K I J A w) : OT K I := h.1.2.2.1
theorem Core.ok (h : Core kw K I J A w) : okB w.2.1 := h.1.2.2.2
theorem Core.cb (h : Core kw K I J A w) : CBC I J w.1 w.2.1 := h.2.1.1
theorem Core.rb (h : Core kw K I J A w) : RBk K I J A w.2.1 := h.2.1.2
theorem Core.m0 (h : Core kw K I J A w) : kk K 224 = (0, 11) ∧ 64 ≤ 224 := ⟨h.ms.1, by decide⟩
theorem Core.k64 (h : Core kw K I J A w) : kk K 64 = (0, 8) := h.sh.2.1
theorem Core.cbs (h : Core kw K I J A w) : CBS K A w.1 := h.sh.2.2.2.2.2.2.2.1
theorem Core.a8 (h : Core kw K I J A w) : A 64 8 = some w.1 := h.sh.2.2.1.2.2.2.2.2.2.2.2
theorem Core.fld {f : Nat} (h : Core kw K I J A w) (hf : f < bnf w.2.1) : FS K A (w.1 + 16 + 4 * f) ∧ FC I (w.1 + 16 + 4 * f) (bfp w.2.1 f) (bfn w.2.1 f) ∧ pn (bfp w.2.1 f) (bfn w.2.1 f) ∧ f < 4 := by
  have h4 : f < 4 := Nat.lt_of_lt_of_le hf h.ok.1.1
  exact ⟨(h.cbs.2.2.2.2.1 f h4).2, h.cb.2.1 f hf, h.ok.1.2 f hf, h4⟩
theorem Core.rfld {f : Nat} (h : Core kw K I J A w) (hf : f < bnf w.2.1) : ∃ b fo, A 224 3 = some b ∧ 236 ≤ b ∧ BS K A b ∧ RBC K I J A b w.2.1 ∧ A (b + 1) f = some fo ∧ 236 ≤ fo ∧ RFS K A fo ∧ RFC I J fo (bfp w.2.1 f) (bfn w.2.1 f) := h.rb.fld hf
theorem zi_nn {v : Int} (h : 0 ≤ v) : zi v = zn v.toNat := by rw [zn_zi]; congr 1; omega
/-- the class's ends of a call -/
theorem e_ans {Q : Int32 → Hp → Prop} {v : Int32} (h : kk K 64 = (0, 8)) (q : Q v (K, st2 I 64 11 0, J, A)) : wp (mBd (mCk 8 (some 64) (f_X10_answered (some 64) v)) (fun r => mRt r)) Q (K, I, J, A) := by
  unfold f_X10_answered
  exact b_ck h (b_assoc (b_putI h (by decide) (b_rt (wp_rt q))))
theorem e_ref {Q : Int32 → Hp → Prop} {v x : Int32} (h : kk K 64 = (0, 8)) (q : Q x (K, st2 I 64 11 v, J, A)) : wp (mBd (mCk 8 (some 64) (f_X10_refused (some 64) v x)) (fun r => mRt r)) Q (K, I, J, A) := by
  unfold f_X10_refused
  exact b_ck h (b_assoc (b_putI h (by decide) (b_rt (wp_rt q))))
theorem e_den {Q : Int32 → Hp → Prop} {v : Int32} (h : kk K 64 = (0, 8)) (q : Q 0 (K, st2 I 64 11 v, J, A)) : wp (mBd (mCk 8 (some 64) (f_X10_denied (some 64) v)) (fun r6 => mRq (r6 = 0 ∨ r6 = 1) (mRt r6))) Q (K, I, J, A) := by
  unfold f_X10_denied
  exact b_ck h (b_assoc (b_putI h (by decide) (b_rt (wp_rq (by decide) (wp_rt q)))))
theorem e_gra {Q : Int32 → Hp → Prop} (h : kk K 64 = (0, 8)) (q : Q 1 (K, st2 I 64 11 0, J, A)) : wp (mBd (mCk 8 (some 64) (f_X10_granted (some 64))) (fun r6 => mRq (r6 = 0 ∨ r6 = 1) (mRt r6))) Q (K, I, J, A) := by
  unfold f_X10_granted
  exact b_ck h (b_assoc (b_putI h (by decide) (b_rt (wp_rq (by decide) (wp_rt q)))))
/-- the reference's -/
theorem r_start {Q : β → Hp → Prop} {G : Unit → Mo β} (h : Core kw K I J A w) (q : ∀ I', Core kw K I' J A w → I' 64 = I 64 → wp (G ()) Q (K, I', J, A)) : wp (mBd (mPutI 11 0 (some 224) 0) G) Q (K, I, J, A) :=
  b_putI h.m0.1 (by decide) (q _ (h.m (by decide)) (st2_nb (by decide)))
theorem r_good {Q : Int32 → Hp → Prop} {v : Int32} (h : kk K 224 = (0, 11) ∧ 64 ≤ 224) (q : Q v (K, st2 (st2 I 224 1 0) 224 2 (-1), J, A)) : wp (mBd (mCk 11 (some 224) (f_X13_good (some 224) v)) (fun r => mRt r)) Q (K, I, J, A) := b_ck h.1 (b_eq (t_good h) (wp_rt q))
theorem r_ref {Q : Int32 → Hp → Prop} {v : Int32} (h : kk K 224 = (0, 11) ∧ 64 ≤ 224) (q : Q (-1) (K, st2 (st2 I 224 1 v) 224 2 (-1), J, A)) : wp (mBd (mCk 11 (some 224) (f_X13_refused (some 224) v)) (fun r => mRt r)) Q (K, I, J, A) := b_ck h.1 (b_eq (t_refused h) (wp_rt q))
theorem r_by {Q : Int32 → Hp → Prop} {v x : Int32} (h : kk K 224 = (0, 11) ∧ 64 ≤ 224) (q : Q x (K, st2 (st2 I 224 1 v) 224 2 (-1), J, A)) : wp (mBd (mCk 11 (some 224) (f_X13_refusedBy (some 224) v x)) (fun r => mRt r)) Q (K, I, J, A) := b_ck h.1 (b_eq (t_refusedBy h) (wp_rt q))
theorem r_den {Q : Int32 → Hp → Prop} {v : Int32} (h : kk K 224 = (0, 11) ∧ 64 ≤ 224) (q : Q 0 (K, st2 (st2 I 224 1 v) 224 2 (-1), J, A)) : wp (mBd (mCk 11 (some 224) (f_X13_denied (some 224) v)) (fun r6 => mRq (r6 = 0 ∨ r6 = 1) (mRt r6))) Q (K, I, J, A) := b_ck h.1 (b_eq (t_denied h) (wp_rq (by decide) (wp_rt q)))
theorem r_goodL {Q : Int64 → Hp → Prop} {v : Int64} (h : kk K 224 = (0, 11) ∧ 64 ≤ 224) (q : Q v (K, st2 (st2 I 224 1 0) 224 2 (-1), J, A)) : wp (mBd (mCk 11 (some 224) (f_X13_goodLong (some 224) v)) (fun r => mRt r)) Q (K, I, J, A) := b_ck h.1 (b_eq (t_goodLong h) (wp_rt q))
/-- both are done -/
theorem fin {tr : Nat} {v : Int32} (hc : Core kw K I J A w) (h64 : I 64 11 = zn tr) (hv : v = zn tr) (h4 : tr < 100 ∧ tr ≠ 4) : Post kw K A w (K, st2 (st2 I 224 1 v) 224 2 (-1), J, A) := by
  refine ⟨_, _, tr, rfl, hc.m2, h4.1, ?_, ?_, ?_⟩
  · rw [st2_na (by decide), st2_na (by decide)]; exact h64
  · rw [st2_nk (by decide), st2_at, hv]
  · rw [st2_at, if_neg h4.2]
theorem fin0 (hc : Core kw K I J A w) (h64 : I 64 11 = zn 0) : Post kw K A w (K, st2 (st2 I 224 1 0) 224 2 (-1), J, A) := fin hc h64 rfl (by decide)
/-! the class's questions of a field -/
theorem t_hasUnit {a p n : Nat} {v : Int} (hF : FS K A a) (hC : FC I a p n) (hp : p < 1000) (hv : -2147483648 ≤ v ∧ v < 2147483648) : f_X2_hasUnit (some a) (zi v) (K, I, J, A) = some (b01 (decide (1 ≤ v) && decide (v < p)), (K, I, J, A)) := by
  apply wp_get
  unfold f_X2_hasUnit
  by_cases h1 : v ≤ 0
  · exact wp_ifp (ile_t (b := 0) (by omega)) (wp_rt ⟨by rw [show (decide (1 ≤ v) && decide (v < p)) = false from by simp; omega]; rfl, rfl⟩)
  · refine wp_ifn (ile_f (b := 0) (by omega)) (b_getIv hF.1 hC.1 ?_)
    rw [zn_zi p]
    by_cases h2 : v < p
    · exact wp_ifn (ige_f (by omega)) (wp_rt ⟨by rw [show (decide (1 ≤ v) && decide (v < p)) = true from by simp; omega]; rfl, rfl⟩)
    · exact wp_ifp (ige_t (by omega)) (wp_rt ⟨by rw [show (decide (1 ≤ v) && decide (v < p)) = false from by simp; omega]; rfl, rfl⟩)
theorem t_hasNumber {a p n : Nat} {v : Int} (hF : FS K A a) (hC : FC I a p n) (hp : p < 1000) (hv : -2147483648 ≤ v ∧ v < 2147483648) : f_X2_hasNumber (some a) (zi v) (K, I, J, A) = some (b01 (decide (0 ≤ v) && decide (v < p)), (K, I, J, A)) := by
  apply wp_get
  unfold f_X2_hasNumber
  by_cases h1 : v < 0
  · exact wp_ifp (ilt_t (b := 0) (by omega)) (wp_rt ⟨by rw [show (decide (0 ≤ v) && decide (v < p)) = false from by simp; omega]; rfl, rfl⟩)
  · refine wp_ifn (ilt_f (b := 0) (by omega)) (b_getIv hF.1 hC.1 ?_)
    rw [zn_zi p]
    by_cases h2 : v < p
    · exact wp_ifn (ige_f (by omega)) (wp_rt ⟨by rw [show (decide (0 ≤ v) && decide (v < p)) = true from by simp; omega]; rfl, rfl⟩)
    · exact wp_ifp (ige_t (by omega)) (wp_rt ⟨by rw [show (decide (0 ≤ v) && decide (v < p)) = false from by simp; omega]; rfl, rfl⟩)
theorem t_hasCharacter {a p n : Nat} {v : Int} (hF : FS K A a) (hC : FC I a p n) (hp : n < 1000) (hv : -2147483648 ≤ v ∧ v < 2147483648) : f_X2_hasCharacter (some a) (zi v) (K, I, J, A) = some (b01 (decide (0 ≤ v) && decide (v < n)), (K, I, J, A)) := by
  apply wp_get
  unfold f_X2_hasCharacter
  by_cases h1 : v < 0
  · exact wp_ifp (ilt_t (b := 0) (by omega)) (wp_rt ⟨by rw [show (decide (0 ≤ v) && decide (v < n)) = false from by simp; omega]; rfl, rfl⟩)
  · refine wp_ifn (ilt_f (b := 0) (by omega)) (b_getIv hF.1 hC.2.1 ?_)
    rw [zn_zi n]
    by_cases h2 : v < n
    · exact wp_ifn (ige_f (by omega)) (wp_rt ⟨by rw [show (decide (0 ≤ v) && decide (v < n)) = true from by simp; omega]; rfl, rfl⟩)
    · exact wp_ifp (ige_t (by omega)) (wp_rt ⟨by rw [show (decide (0 ≤ v) && decide (v < n)) = false from by simp; omega]; rfl, rfl⟩)
theorem t_rowLength {a p n : Nat} (hO : OT K I) (hF : FS K A a) (hC : FC I a p n) (hpn : pn p n) : f_X2_rowLength (some a) (K, I, J, A) = some (zn (phi n), (K, I, J, A)) := by
  apply wp_get
  unfold f_X2_rowLength
  exact b_getIv hF.1 hC.2.1 (b_eq (t_lengthOf hO (pn_rng hpn).2.2.2) (wp_rt ⟨rfl, rfl⟩))
theorem t_order {a p n : Nat} (hF : FS K A a) (hC : FC I a p n) : f_X2_order (some a) (K, I, J, A) = some (zn n, (K, I, J, A)) := by
  apply wp_get
  unfold f_X2_order
  exact b_getIv hF.1 hC.2.1 (wp_rt ⟨rfl, rfl⟩)
theorem t_prime {a p n : Nat} (hF : FS K A a) (hC : FC I a p n) : f_X2_prime (some a) (K, I, J, A) = some (zn p, (K, I, J, A)) := by
  apply wp_get
  unfold f_X2_prime
  exact b_getIv hF.1 hC.1 (wp_rt ⟨rfl, rfl⟩)
theorem t_root {a p n : Nat} (hF : FS K A a) (hC : FC I a p n) (hpn : pn p n) : f_X2_root (some a) (K, I, J, A) = some (zn (rt p), (K, I, J, A)) := by
  apply wp_get
  have hr := pn_rng hpn
  have hrt := rt_rng hpn.1
  unfold f_X2_root
  refine b_getA hF.1 hF.2.1.2.1 (b_eq (t_cellp (j := 1) hF.2.2.1.2.1 (by omega) (by omega)) (wp_rt ⟨?_, rfl⟩))
  rw [hC.2.2.1 1 (by omega), Nat.pow_one, Nat.mod_eq_of_lt hrt.2]
/-- the field that the class finds at a number, and whether it has a SUM a, b -/
def atF (nb : Nat) (B : BKD) (v : Int) : Option Nat := if 0 ≤ v ∧ v < bnf B then some (nb + 16 + 4 * v.toNat) else none
theorem t_fat {v : Int} (h : Core kw K I J A w) (hv : -2147483648 ≤ v ∧ v < 2147483648) : f_X0_fieldAt (some w.1) (zi v) (K, I, J, A) = some (atF w.1 w.2.1 v, (K, I, J, A)) := t_fieldAt h.cbs h.cb h.ok hv
theorem atF_t {nb : Nat} {B : BKD} {v : Int} (h : 0 ≤ v ∧ v < bnf B) : atF nb B v = some (nb + 16 + 4 * v.toNat) := if_pos h
theorem atF_f {nb : Nat} {B : BKD} {v : Int} (h : ¬ (0 ≤ v ∧ v < bnf B)) : atF nb B v = none := if_neg h
theorem t_hasSum {v a b : Int} (h : Core kw K I J A w) (ha : -2147483648 ≤ a ∧ a < 2147483648) (hb : -2147483648 ≤ b ∧ b < 2147483648) : f_X10_hasSum (atF w.1 w.2.1 v) (zi a) (zi b) (K, I, J, A) = some (b01 (areO w.2.1 v a b), (K, I, J, A)) := by
  apply wp_get
  unfold f_X10_hasSum areO
  by_cases hf : 0 ≤ v ∧ v < bnf w.2.1
  · rw [atF_t hf]
    obtain ⟨hF, hC, hpn, h4⟩ := h.fld (show v.toNat < bnf w.2.1 by omega)
    have hr := pn_rng hpn
    rw [show (decide (0 ≤ v) && decide (v < bnf w.2.1)) = true from by simp; omega, Bool.true_and]
    refine wp_ifn (by simp) (b_ck hF.1 (b_eq (t_hasCharacter hF hC (by omega) ha) ?_))
    cases h1 : (decide (0 ≤ a) && decide (a < bfn w.2.1 v.toNat)) with
    | false => exact wp_ifp (by decide) (wp_rt ⟨by simp; rfl, rfl⟩)
    | true =>
      rw [Bool.true_and]
      refine wp_ifn (by decide) (b_ck hF.1 (b_eq (t_hasCharacter hF hC (by omega) hb) ?_))
      cases h2 : (decide (0 ≤ b) && decide (b < bfn w.2.1 v.toNat)) with
      | false => exact wp_ifp (by decide) (wp_rt ⟨rfl, rfl⟩)
      | true => exact wp_ifn (by decide) (wp_rt ⟨rfl, rfl⟩)
  · rw [atF_f hf, show (decide (0 ≤ v) && decide (v < bnf w.2.1)) = false from by simp; omega]
    exact wp_ifp rfl (wp_rt ⟨by simp; rfl, rfl⟩)
theorem areO_t {B : BKD} {v a b : Int} (h : areO B v a b = true) : (0 ≤ v ∧ v < bnf B) ∧ (0 ≤ a ∧ a < bfn B v.toNat) ∧ 0 ≤ b ∧ b < bfn B v.toNat := by
  unfold areO at h
  simp only [Bool.and_eq_true, decide_eq_true_eq] at h
  omega
theorem inb_t {v n : Int} (h : 0 ≤ v ∧ v < n) : (decide (0 ≤ v) && decide (v < n)) = true := by simp; omega
theorem inb_f {v n : Int} (h : ¬ (0 ≤ v ∧ v < n)) : (decide (0 ≤ v) && decide (v < n)) = false := by simp; omega
theorem in1_t {v n : Int} (h : 1 ≤ v ∧ v < n) : (decide (1 ≤ v) && decide (v < n)) = true := by simp; omega
theorem in1_f {v n : Int} (h : ¬ (1 ≤ v ∧ v < n)) : (decide (1 ≤ v) && decide (v < n)) = false := by simp; omega
/-- the reference's question: lies v in low .. high? -/
theorem t_inN {v : Int} {lo hi : Nat} {h : Hp} (hv : -2147483648 ≤ v ∧ v < 2147483648) (hl : lo < 10000) (hh : hi < 10000) : f_X13_in (zi v) (zn lo) (zn hi) h = some (b01 (decide ((lo : Int) ≤ v) && decide (v ≤ hi)), h) := by
  rw [zn_zi, zn_zi, t_in hv (by omega) (by omega)]
  by_cases h1 : (lo : Int) ≤ v ∧ v ≤ hi
  · rw [if_pos h1, show (decide ((lo : Int) ≤ v) && decide (v ≤ hi)) = true from by simp; omega]; rfl
  · rw [if_neg h1, show (decide ((lo : Int) ≤ v) && decide (v ≤ hi)) = false from by simp; omega]; rfl
theorem a64 (h : Core kw K I J A w) : (A 64 0 = some 65 ∧ A 64 1 = some 160 ∧ A 64 2 = some 162 ∧ A 64 3 = some 165 ∧ A 64 4 = some 168 ∧ A 64 5 = some 169 ∧ A 64 6 = some 170 ∧ A 64 7 = some 171 ∧ A 64 8 = some w.1) := h.sh.2.2.1
theorem Core.rg (h : Core kw K I J A w) : RS K A 160 := h.sh.2.2.2.1
theorem Core.gs (h : Core kw K I J A w) : GS K A 162 := h.sh.2.2.2.2.1
theorem Core.ss (h : Core kw K I J A w) : SS K A 165 := h.sh.2.2.2.2.2.1
theorem Core.rows (h : Core kw K I J A w) : (kk K 168 = (2, 10) ∧ kk K 169 = (2, 10) ∧ kk K 170 = (2, 10) ∧ kk K 171 = (2, 10)) := h.sh.2.2.2.2.2.2.1
/-- only scratch rows of the class were written -/
theorem Core.j1 {o : Nat} (h : Core kw K I J A w) (ho : o = 168 ∨ o = 169 ∨ o = 170 ∨ o = 171) (hf : ∀ b, b ≠ 160 + 1 → b ≠ o → J' b = J b) : Core kw K I J' A w := h.jj (fun b hb => hf b (by unfold scrJ at hb; omega) (by unfold scrJ at hb; omega))
theorem Core.j0 {o : Nat} (h : Core kw K I J A w) (ho : o = 168 ∨ o = 169 ∨ o = 170 ∨ o = 171) (hf : ∀ b, b ≠ o → J' b = J b) : Core kw K I J' A w := h.jj (fun b hb => hf b (by unfold scrJ at hb; omega))
/-- only rows of the reference were written -/
theorem Core.jr {to : Nat} (h : Core kw K I J A w) (hf : rfr 224 to J J') : Core kw K I J' A w := h.jj (fun b hb => hf.1 b (by unfold scrJ at hb; omega) (by unfold scrJ at hb; omega))
end
