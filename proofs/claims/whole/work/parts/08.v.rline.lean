/-! ===== the reference reads a field's line ===== -/
section
variable {β : Type} {kw : Nat → Int64} {K : List (Nat × Nat)} {I I' : Nat → Nat → Int32} {J J' : Nat → Nat → Int64} {A : Nat → Nat → Option Nat} {w : WD}
variable {b : Nat → Nat} {n T t rb : Nat} {B : BKD} {N : NMD}
/-- what reading may change in the model, besides the book under way -/
def RW (I : Nat → Nat → Int32) (J : Nat → Nat → Int64) (I' : Nat → Nat → Int32) (J' : Nat → Nat → Int64) : Prop := (∀ x, x ≠ 224 → I' x = I x) ∧ (∀ j, (j < 10 ∨ 16 < j) → I' 224 j = I 224 j) ∧ (∀ x, x ≠ 224 → J' x = J x) ∧ ∀ j, j ≠ 17 → J' 224 j = J 224 j
theorem RW.rfl' : RW I J I J := ⟨fun _ _ => rfl, fun _ _ => rfl, fun _ _ => rfl, fun _ _ => rfl⟩
theorem RW.trans {I'' : Nat → Nat → Int32} {J'' : Nat → Nat → Int64} (h : RW I J I' J') (g : RW I' J' I'' J'') : RW I J I'' J'' := ⟨fun x a => (g.1 x a).trans (h.1 x a), fun j hj => (g.2.1 j hj).trans (h.2.1 j hj), fun x a => (g.2.2.1 x a).trans (h.2.2.1 x a), fun x a => (g.2.2.2 x a).trans (h.2.2.2 x a)⟩
theorem RF.rw' (h : RF I J I' J') : RW I J I' J' := ⟨h.1, fun j hj => h.2.1 j (by omega), h.2.2.1, h.2.2.2⟩
theorem RW.over {k p : Nat} : RW I J (over I k p) J := ⟨fun _ hx => over_ne hx, fun j hj => over_j (by omega), fun _ _ => rfl, fun _ _ => rfl⟩
theorem NmR.rw' (h : NmR I J rb N) (hb : 236 ≤ rb) (f : RW I J I' J') : NmR I' J' rb N := ⟨by rw [f.1 rb (by omega)]; exact h.1, fun k hk => ⟨by rw [f.2.2.1 _ (by omega)]; exact (h.2 k hk).1, by rw [f.1 _ (by omega)]; exact (h.2 k hk).2.1, by rw [f.1 _ (by omega)]; exact (h.2 k hk).2.2⟩⟩
theorem RB.rw' (h : RB I b n) (f : RW I J I' J') : RB I' b n := ⟨h.1, by rw [f.2.1 9 (by omega)]; exact h.2.1, fun i hi => ⟨(h.2.2 i hi).1, by rw [f.1 227 (by decide)]; exact (h.2.2 i hi).2⟩⟩
/-! over -/
theorem o_fresh (hM : MS K A 224) (h : I 224 11 = 5) (h4 : A 224 4 = some rb) (hB : BS K A rb) (hN : NmR I J rb N) (hO : okN N) : f_X13_readFresh (some 224) (K, I, J, A) = some (J 224 17, (K, I, J, A)) := by
  apply wp_get
  unfold f_X13_readFresh
  refine b_ck hM.1 (b_eq (o_isName hM h) (wp_ifn (by decide) (b_ck hM.1 (b_eq (o_wrong hM h) ?_))))
  unfold f_X13_readFresh_j12
  refine b_getA hM.1 h4 (b_getJ hM.1 (b_ck hB.1 (b_eq (t_findR hB hN hO) ?_)))
  have fin : ∀ r : Int32, wp (if r = (-1 : Int32) then mBd (mGetJ 11 17 (some 224)) (fun r5 => mBd (mCk 11 (some 224) (f_X13_goesOn (some 224))) (fun _ => mRt r5)) else mBd (mCk 11 (some 224) (f_X13_wrong (some 224) (3 : Int32))) (fun _ => mBd (mGetJ 11 17 (some 224)) (fun r6 => mBd (mCk 11 (some 224) (f_X13_goesOn (some 224))) (fun _ => mRt r6)))) (fun r h' => r = J 224 17 ∧ h' = (K, I, J, A)) (K, I, J, A) := by
    intro r
    by_cases hr : r = -1
    · exact wp_ifp hr (b_getJ hM.1 (b_ck hM.1 (b_eq (o_goesOn hM h) (wp_rt ⟨rfl, rfl⟩))))
    · exact wp_ifn hr (b_ck hM.1 (b_eq (o_wrong hM h) (b_getJ hM.1 (b_ck hM.1 (b_eq (o_goesOn hM h) (wp_rt ⟨rfl, rfl⟩))))))
  exact fin _
theorem o_j71 {v : Int64} {p m : Int32} (hM : MS K A 224) (h : I 224 11 = 5) : f_X13_readFieldLine_j71 (some 224) v p m (K, I, J, A) = some ((), (K, I, J, A)) := by
  apply wp_get
  unfold f_X13_readFieldLine_j71
  exact b_ck hM.1 (b_eq (o_goesOn hM h) (b_getIv hM.1 h (wp_ifn (by decide) (wp_rt ⟨rfl, rfl⟩))))
theorem o_j38 {v : Int64} {p : Int32} (hM : MS K A 224) (h : I 224 11 = 5) : f_X13_readFieldLine_j38 (some 224) v p (K, I, J, A) = some ((), (K, I, J, A)) := by
  apply wp_get
  unfold f_X13_readFieldLine_j38
  refine b_ck hM.1 (b_eq (o_goesOn hM h) (b_ck hM.1 (b_eq (o_needs hM h) (b_ck hM.1 (b_eq (o_bounded hM h) (wp_rq (by decide) ?_))))))
  by_cases hc : irem (p - (1 : Int32)) 2 = 0
  · refine wp_ifp hc ?_
    unfold wp
    exact ⟨_, _, o_j71 hM h, rfl, rfl⟩
  · refine wp_ifn hc (b_ck hM.1 (b_eq (o_wrong hM h) ?_))
    unfold wp
    exact ⟨_, _, o_j71 hM h, rfl, rfl⟩
/-! at a token -/
theorem t_fresh {Q : Int64 → Hp → Prop} (hM : MS K A 224) (hS : SK K) (hBt : RB I b n) (hR : RT I J kwC b n t) (h5 : ¬ I 224 11 = 5) (h4 : A 224 4 = some rb) (hb : 236 ≤ rb) (hB : BS K A rb) (hN : NmR I J rb N) (hO : okN N)
    (q1 : kd' kwC b n t = 5 → rk N (vl kwC b n t) = none → ∀ I' J', RF I J I' J' → RT I' J' kwC b n (t + 1) → ¬ I' 224 11 = 5 → Q (vl kwC b n t) (K, I', J', A)) (q3 : kd' kwC b n t = 5 → (rk N (vl kwC b n t)).isSome = true → ∀ v, Q v (K, over I 3 (ps b n t), J, A)) (q0 : kd' kwC b n t ≠ 5 → ∀ v, Q v (K, over I 1 (ps b n t), J, A)) : wp (f_X13_readFresh (some 224)) Q (K, I, J, A) := by
  unfold f_X13_readFresh
  refine b_ck hM.1 (b_eq (t_isName hM hS hR) ?_)
  by_cases h : kd' kwC b n t = 5
  · rw [h]
    have hw : J 224 17 = vl kwC b n t := by
      obtain ⟨_, hh, _⟩ := hR
      rcases hh with ⟨h1, _⟩ | ⟨h1, _⟩ | ⟨h1, _⟩ | ⟨h1, _⟩ | ⟨h1, _⟩ | ⟨h1, _, h3, _⟩
      · omega
      · omega
      · omega
      · omega
      · omega
      · exact h3
    refine wp_ifp (by decide) ?_
    unfold f_X13_readFresh_j12
    refine b_getA hM.1 h4 (b_getJv hM.1 hw (b_ck hB.1 (b_eq (t_findR hB hN hO) ?_)))
    cases hr : rk N (vl kwC b n t) with
    | none => exact wp_ifp rfl (b_getJv hM.1 hw (b_ck hM.1 (wp_bd (t_next hM hBt hR h5 (by omega) (fun I' J' a c d => wp_rt (q1 h hr I' J' a c d))))))
    | some k =>
      have hk := rk_lt hr
      have hN1 := hO.1
      refine wp_ifn (fun q => ?_) (b_ck hM.1 (b_eq (t_wrong (k := 3) hM hR h5) (b_getJ hM.1 (b_ck hM.1 (b_eq (o_goesOn hM over_11) (wp_rt (q3 h (by rw [hr]; rfl) _)))))))
      have q' : zn k = -1 := q
      rw [z_m1, zn_zi, zi_inj (by omega) (by omega) (by omega) (by omega)] at q'
      omega
  · rw [beq_eq_false_iff_ne.mpr h]
    refine wp_ifn (by decide) (b_ck hM.1 (b_eq (t_wrong (k := 1) hM hR h5) ?_))
    have := o_fresh (K := K) (I := over I 1 (ps b n t)) (J := J) (A := A) hM over_11 h4 hB (hN.rw' hb RW.over) hO
    unfold f_X13_readFresh_j12
    refine b_getA hM.1 h4 (b_getJ hM.1 (b_ck hB.1 (b_eq (t_findR hB (hN.rw' hb RW.over) hO) ?_)))
    have fin : ∀ r : Int32, wp (if r = (-1 : Int32) then mBd (mGetJ 11 17 (some 224)) (fun r5 => mBd (mCk 11 (some 224) (f_X13_goesOn (some 224))) (fun _ => mRt r5)) else mBd (mCk 11 (some 224) (f_X13_wrong (some 224) (3 : Int32))) (fun _ => mBd (mGetJ 11 17 (some 224)) (fun r6 => mBd (mCk 11 (some 224) (f_X13_goesOn (some 224))) (fun _ => mRt r6)))) Q (K, over I 1 (ps b n t), J, A) := by
      intro r
      by_cases hr : r = -1
      · exact wp_ifp hr (b_getJ hM.1 (b_ck hM.1 (b_eq (o_goesOn hM over_11) (wp_rt (q0 h _)))))
      · exact wp_ifn hr (b_ck hM.1 (b_eq (o_wrong hM over_11) (b_getJ hM.1 (b_ck hM.1 (b_eq (o_goesOn hM over_11) (wp_rt (q0 h _)))))))
    exact fin _
end
