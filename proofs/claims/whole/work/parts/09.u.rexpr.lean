/-! ===== expressions: the reference's products and sums ===== -/
/-- what reading an expression may change in the reference; rows below r stay -/
def YF (r : Nat) (I : Nat → Nat → Int32) (J : Nat → Nat → Int64) (I' : Nat → Nat → Int32) (J' : Nat → Nat → Int64) : Prop :=
  (∀ x, x ≠ 224 → I' x = I x) ∧ (∀ j, (j < 10 ∨ (16 < j ∧ j ≠ 18 ∧ j ≠ 19 ∧ j ≠ 20)) → I' 224 j = I 224 j) ∧ (∀ x, x ≠ 224 → x ≠ 225 → x ≠ 226 → J' x = J x) ∧ (∀ j, j ≠ 17 → J' 224 j = J 224 j) ∧ ∀ j, j < r * 12 → J' 225 j = J 225 j
def YS (K : List (Nat × Nat)) (A : Nat → Nat → Option Nat) (rb : Nat) (B : BKD) (N : NMD) (f fo : Nat) : Prop := MS K A 224 ∧ SK K ∧ A 224 4 = some rb ∧ 236 ≤ rb ∧ BS K A rb ∧ (okB B ∧ okN N ∧ okNB B N) ∧ f < bnf B ∧ A (rb + 1) f = some fo ∧ RFS K A fo ∧ 236 ≤ fo
def YI (K : List (Nat × Nat)) (I : Nat → Nat → Int32) (J : Nat → Nat → Int64) (A : Nat → Nat → Option Nat) (rb : Nat) (b : Nat → Nat) (n : Nat) (B : BKD) (N : NMD) (t : Nat) (H : Bool) (r dd : Nat) : Prop :=
  (RB I b n ∧ RT I J kwC b n t ∧ ¬ I 224 11 = 5) ∧ (RBC K I J A rb B ∧ NmR I J rb N) ∧ I 224 18 = zn r ∧ I 224 19 = zn dd ∧ I 224 20 = b01 H
def YC (K : List (Nat × Nat)) (A : Nat → Nat → Option Nat) (rb : Nat) (b : Nat → Nat) (n : Nat) (B : BKD) (N : NMD) (f fo dd R : Nat) (sp : Nat → Bool → EX) (g : Option Nat → Option Nat → Int32 → Mo Int32) : Prop :=
  ∀ (t : Nat) (H : Bool) (r : Nat) (I : Nat → Nat → Int32) (J : Nat → Nat → Int64) (Q : Int32 → Hp → Prop), r ≤ R → YI K I J A rb b n B N t H r dd →
    (∀ k s I' J' v, sp t H = Sum.inl (k, s) → YF r I J I' J' → I' 224 11 = 5 → I' 224 15 = zn k → I' 224 16 = zn (ps b n s) → Q v (K, I', J', A)) →
    (∀ y H' t' I' J', sp t H = Sum.inr (y, H', t') → YF r I J I' J' → YI K I' J' A rb b n B N t' H' (r + 1) dd → I' 224 15 = I 224 15 → (H' = false → ∀ k, k < 12 → rv J' 224 r k = y k) → Q (zn r) (K, I', J', A)) → wp (g (some 224) (some fo) (zn f)) Q (K, I, J, A)
section
variable {β : Type} {kw : Nat → Int64} {K : List (Nat × Nat)} {I I' : Nat → Nat → Int32} {J J' : Nat → Nat → Int64} {A : Nat → Nat → Option Nat} {w : WD}
variable {b : Nat → Nat} {n t m p f fo rb r dd R : Nat} {B : BKD} {N : NMD} {at' : Nat → Bool → EX} {H : Bool}
theorem YF.rfl' : YF r I J I J := ⟨fun _ _ => rfl, fun _ _ => rfl, fun _ _ _ _ => rfl, fun _ _ => rfl, fun _ _ => rfl⟩
theorem YF.trans {I'' : Nat → Nat → Int32} {J'' : Nat → Nat → Int64} (h : YF r I J I' J') (g : YF r I' J' I'' J'') : YF r I J I'' J'' := ⟨fun x a => (g.1 x a).trans (h.1 x a), fun j hj => (g.2.1 j hj).trans (h.2.1 j hj), fun x a a' a'' => (g.2.2.1 x a a' a'').trans (h.2.2.1 x a a' a''), fun j hj => (g.2.2.2.1 j hj).trans (h.2.2.2.1 j hj), fun j hj => (g.2.2.2.2 j hj).trans (h.2.2.2.2 j hj)⟩
theorem YF.wk {r' : Nat} (h : YF r' I J I' J') (hr : r ≤ r') : YF r I J I' J' := ⟨h.1, h.2.1, h.2.2.1, h.2.2.2.1, fun j hj => h.2.2.2.2 j (by omega)⟩
theorem RW.yf (h : RW I J I' J') : YF r I J I' J' := ⟨h.1, fun j hj => h.2.1 j (by omega), fun x a _ _ => h.2.2.1 x a, h.2.2.2, fun j _ => by rw [h.2.2.1 225 (by decide)]⟩
theorem YF.i {j : Nat} {v : Int32} (hj : j = 18 ∨ j = 19 ∨ j = 20) : YF r I J (st2 I 224 j v) J := ⟨fun x a => st2_nb a, fun k hk => st2_nk (by omega), fun _ _ _ _ => rfl, fun _ _ => rfl, fun _ _ => rfl⟩
theorem YF.jj {to : Nat} (h : rfr 224 to J J') (hr : r ≤ to) : YF r I J I J' := ⟨fun _ _ => rfl, fun _ _ => rfl, fun x _ a' a'' => h.1 x a' a'', fun j _ => by rw [h.1 224 (by decide) (by decide)], fun j hj => h.2 j (by omega)⟩
theorem RBC.hi {B : BKD} (hk : okB B) (h : RBC K I J A rb B) (hb : 236 ≤ rb) (eI : ∀ x, 236 ≤ x → I' x = I x) (eJ : ∀ x, 236 ≤ x → J' x = J x) : RBC K I' J' A rb B := by
  obtain ⟨⟨o1, o2⟩, ⟨o3, o4⟩, ⟨o5, o6⟩⟩ := hk
  obtain ⟨⟨x1, x2, x3⟩, x4, x5, x6⟩ := h
  refine ⟨⟨by rw [eI _ (by omega)]; exact x1, by rw [eI _ (by omega)]; exact x2, by rw [eI _ (by omega)]; exact x3⟩, fun f hf => ?_, fun i hi => ?_, fun l hl => ⟨by rw [eI _ (by omega)]; exact (x6 l hl).1, fun i hi => by rw [eJ _ (by omega)]; exact (x6 l hl).2 i hi⟩⟩
  · obtain ⟨fo, z1, z2, z3, z4⟩ := x4 f hf
    exact ⟨fo, z1, z2, z3, (z4.mvI (eI _ (by omega)) (eI _ (by omega))).mv (eJ _ (by omega))⟩
  · obtain ⟨z1, z2, z3, z4⟩ := x5 i hi
    exact ⟨by rw [eI _ (by omega)]; exact z1, by rw [eI _ (by omega)]; exact z2, by rw [eI _ (by omega)]; exact z3, fun t ht => ⟨by rw [eI _ (by omega)]; exact (z4 t ht).1, by rw [eI _ (by omega)]; exact (z4 t ht).2⟩⟩
theorem NmR.hi (h : NmR I J rb N) (hb : 236 ≤ rb) (eI : ∀ x, 236 ≤ x → I' x = I x) (eJ : ∀ x, 236 ≤ x → J' x = J x) : NmR I' J' rb N := ⟨by rw [eI rb (by omega)]; exact h.1, fun k hk => ⟨by rw [eJ _ (by omega)]; exact (h.2 k hk).1, by rw [eI _ (by omega)]; exact (h.2 k hk).2.1, by rw [eI _ (by omega)]; exact (h.2 k hk).2.2⟩⟩
theorem RT.k {j : Nat} {v : Int32} (h : RT I J kwC b n t) (hj : 14 < j) : RT (st2 I 224 j v) J kwC b n t := by
  unfold RT at h ⊢
  rw [st2_nk (by omega), st2_nk (by omega), st2_nk (by omega), st2_nk (by omega), st2_nk (by omega)]
  exact h
theorem RT.jj (h : RT I J kwC b n t) (e : J' 224 17 = J 224 17) : RT I J' kwC b n t := by
  unfold RT at h ⊢
  rw [e]
  exact h
theorem RB.yf (h : RB I b n) (f : YF r I J I' J') : RB I' b n := ⟨h.1, by rw [f.2.1 9 (by omega)]; exact h.2.1, fun i hi => ⟨(h.2.2 i hi).1, by rw [f.1 227 (by decide)]; exact (h.2.2 i hi).2⟩⟩
theorem YI.mv {t' r' dd' : Nat} {H' : Bool} {q : Nat} (hS : YS K A rb B N f fo) (h : YI K I J A rb b n B N t H r dd) (hF : YF q I J I' J') (hT : RT I' J' kwC b n t') (h5 : ¬ I' 224 11 = 5) (h18 : I' 224 18 = zn r') (h19 : I' 224 19 = zn dd') (h20 : I' 224 20 = b01 H') : YI K I' J' A rb b n B N t' H' r' dd' := by
  obtain ⟨⟨hB, _, _⟩, ⟨hC, hN⟩, _⟩ := h
  obtain ⟨_, _, _, hb, hBS, ⟨hk, _⟩, _⟩ := hS
  exact ⟨⟨hB.yf hF, hT, h5⟩, ⟨hC.hi hk hb (fun x hx => hF.1 x (by omega)) (fun x hx => hF.2.2.1 x (by omega) (by omega) (by omega)), hN.hi hb (fun x hx => hF.1 x (by omega)) (fun x hx => hF.2.2.1 x (by omega) (by omega) (by omega))⟩, h18, h19, h20⟩
theorem YI.rf (hS : YS K A rb B N f fo) (h : YI K I J A rb b n B N t H r dd) (hF : RF I J I' J') (hT : RT I' J' kwC b n (t + 1)) (h5 : ¬ I' 224 11 = 5) : YI K I' J' A rb b n B N (t + 1) H r dd :=
  h.mv hS (q := 0) hF.rw'.yf hT h5 (by rw [hF.2.1 18 (by omega)]; exact h.2.2.1) (by rw [hF.2.1 19 (by omega)]; exact h.2.2.2.1) (by rw [hF.2.1 20 (by omega)]; exact h.2.2.2.2)
theorem YI.fld (hS : YS K A rb B N f fo) (h : YI K I J A rb b n B N t H r dd) : RFC I J fo (bfp B f) (bfn B f) := by
  obtain ⟨_, _, _, hb, hBS, ⟨hk, _⟩, hf, hfo, hRF, hfo2⟩ := hS
  obtain ⟨fo', z1, z2, z3, z4⟩ := h.2.1.1.2.1 f hf
  rw [hfo] at z1
  have : fo = fo' := by simpa using z1
  rw [this]; exact z4
theorem t_checks {Q : Unit → Hp → Prop} (hM : MS K A 224) (hr : r < 48) (q0 : hug 12 (rv J 224 r) = false → Q () (K, I, J, A)) (q1 : hug 12 (rv J 224 r) = true → ∀ J', rfr 224 r J J' → Q () (K, st2 I 224 20 1, J', A)) : wp (f_X13_checks (some 224) (zn r)) Q (K, I, J, A) := by
  unfold f_X13_checks
  refine b_ck hM.1 (b_eq (t_isHugeR hM hr) ?_)
  cases h : hug 12 (rv J 224 r) with
  | true => exact wp_ifp (by decide) (b_putZ hM.1 (by decide) (by decide) (b_ck hM.1 (wp_bd (t_wholeRow hM hr (fun J' f' _ => wp_rt (q1 h J' f'))))))
  | false => exact wp_ifn (by decide) (wp_rt (q0 h))
theorem hug12_10 {y z : Nat → Int64} (h : ∀ k, k < 12 → z k = y k) (hy : ∀ i, 10 ≤ i → y i = 0) : hug 12 z = hug 10 y := by
  rw [hug_congr h]
  exact hug_12 ⟨hy 10 (by omega), hy 11 (by omega)⟩
/-- a row has been reckoned: it is checked, and is the top one -/
theorem t_checkTop {α : Type} {k7 : Mo α} {Q : α → Hp → Prop} {y : Nat → Int64} (hS : YS K A rb B N f fo) (hr : r < 47) (hI : YI K I J A rb b n B N t H (r + 2) dd) (hy : ∀ i, 10 ≤ i → y i = 0) (hz : H = false → ∀ k, k < 12 → rv J 224 r k = y k)
    (q : ∀ I' J', YF r I J I' J' → YI K I' J' A rb b n B N t (H || hug 10 y) (r + 1) dd → I' 224 15 = I 224 15 → ((H || hug 10 y) = false → ∀ k, k < 12 → rv J' 224 r k = y k) → wp k7 Q (K, I', J', A)) :
    wp (mBd (mCk 11 (some 224) (f_X13_checks (some 224) (zn r))) (fun _ => mBd (mPutI 11 18 (some 224) (zn r + (1 : Int32))) (fun _ => k7))) Q (K, I, J, A) := by
  have hS' := hS
  obtain ⟨hM, hSK, h4, hb, hBS, ⟨hk, hkN, hNB⟩, hf, hfo, hRF, hfo2⟩ := hS'
  have hI' := hI
  obtain ⟨⟨hB, hT, h5⟩, ⟨hC, hN⟩, h18, h19, h20⟩ := hI'
  refine b_ck hM.1 (wp_bd (t_checks hM (by omega) (fun h0 => ?_) (fun h1 J2 f2 => ?_)))
  · refine b_putI hM.1 (by decide) ?_
    rw [zn_succ]
    have eH : (H || hug 10 y) = H := by
      cases hH : H with
      | true => rfl
      | false =>
        have e := hug12_10 (hz hH) hy
        rw [h0] at e
        rw [← e]; rfl
    rw [eH] at q
    exact q _ J (YF.i (by omega)) (hI.mv hS (q := 0) (YF.i (by omega)) (hT.k (by omega)) (by rw [st2_nk (by omega)]; exact h5) st2_at (by rw [st2_nk (by omega)]; exact h19) (by rw [st2_nk (by omega)]; exact h20)) (st2_nk (by omega)) hz
  · refine b_putI hM.1 (by decide) ?_
    rw [zn_succ]
    have eH : (H || hug 10 y) = true := by
      cases hH : H with
      | true => rfl
      | false =>
        have e := hug12_10 (hz hH) hy
        rw [h1] at e
        rw [← e]; rfl
    rw [eH] at q
    have F : YF r I J (st2 (st2 I 224 20 1) 224 18 (zn (r + 1))) J2 := (YF.i (j := 20) (by omega)).trans ((YF.i (j := 18) (by omega)).trans (YF.jj f2 (by omega)))
    exact q _ J2 F (hI.mv hS F (((hT.k (by omega)).k (by omega)).jj (by rw [f2.1 224 (by decide) (by decide)])) (by rw [st2_nk (by omega), st2_nk (by omega)]; exact h5) st2_at (by rw [st2_nk (by omega), st2_nk (by omega)]; exact h19) (by rw [st2_nk (by omega), st2_at]; rfl)) (by rw [st2_nk (by omega), st2_nk (by omega)]) (fun h => absurd h (by decide))
end
