/-! ===== the reference reads a field's line, whole ===== -/
section
variable {β : Type} {kw : Nat → Int64} {K : List (Nat × Nat)} {I I' : Nat → Nat → Int32} {J J' : Nat → Nat → Int64} {A : Nat → Nat → Option Nat} {w : WD}
variable {b : Nat → Nat} {n T t rb : Nat} {B : BKD} {N : NMD}
def RRd (K : List (Nat × Nat)) (I : Nat → Nat → Int32) (J : Nat → Nat → Int64) (A : Nat → Nat → Option Nat) (rb : Nat) (b : Nat → Nat) (n : Nat) (B : BKD) (N : NMD) (t : Nat) : Prop :=
  (A 224 4 = some rb ∧ 236 ≤ rb ∧ BS K A rb) ∧ (RB I b n ∧ RT I J kwC b n t ∧ ¬ I 224 11 = 5 ∧ I 224 15 = 0) ∧ (RBC K I J A rb B ∧ NmR I J rb N) ∧ okB B ∧ okN N ∧ N.1 = bnf B + bne B + bnl B
/-- done for in a line -/
def ROv (I : Nat → Nat → Int32) (J : Nat → Nat → Int64) (I' : Nat → Nat → Int32) (J' : Nat → Nat → Int64) (k p : Nat) : Prop := RW I J I' J' ∧ I' 224 11 = 5 ∧ I' 224 15 = zn k ∧ I' 224 16 = zn p
theorem ROv.mk' {k p : Nat} (h : RW I J I' J') : ROv I J (over I' k p) J' k p := ⟨h.trans RW.over, over_11, over_15, over_16⟩
theorem b_stA {α : Type} {G : Unit → Mo α} {Q : α → Hp → Prop} {a j m v : Nat} (hk : kk K a = (7, m)) (ha : 64 ≤ a) (hj : j < m) (hb : j < 2147483648) (hv : kk K v = (0, 10)) (hv64 : 64 ≤ v) (w : wp (G ()) Q (K, I, J, st2 A a j (some v))) : wp (mBd (mStA 7 (some a) (zn j) (some v)) G) Q (K, I, J, A) := by
  refine b_eq (r := ()) (h' := (K, I, J, st2 A a j (some v))) ?_ w
  refine (if_pos (show (((kk K a).1 = 7 ∧ (7 = 4 ∨ 7 = 5 ∨ 7 = 7)) ∧ 64 ≤ a ∧ kk K v = (0, aC 7) ∧ 64 ≤ v) ∧ ¬ (zn j < 0 ∨ (kk K a).2 ≤ (zn j).toNatClampNeg) by rw [hk]; exact ⟨⟨⟨rfl, by decide⟩, ha, hv, hv64⟩, idx_ok hj hb⟩)).trans ?_
  rw [zn_clamp hb]
  rfl
theorem o_tailF {Q : Unit → Hp → Prop} (hM : MS K A 224) (h : I 224 11 = 5) (h4 : A 224 4 = some rb) (hB : BS K A rb) (hN : NmR I J rb N) (hO : okN N) (q : Q () (K, I, J, A)) : wp (mBd (mCk 11 (some 224) (f_X13_readFresh (some 224))) (fun r3 => mBd (mCk 11 (some 224) (f_X13_bounded (some 224) (3 : Int32) (199 : Int32))) (fun r4 => mBd (f_X13_isPrime r4) (fun r5 => (if ¬ r5 = 0 then f_X13_readFieldLine_j38 (some 224) r3 r4 else mBd (mCk 11 (some 224) (f_X13_wrong (some 224) (4 : Int32))) (fun _ => f_X13_readFieldLine_j38 (some 224) r3 r4)))))) Q (K, I, J, A) := by
  refine b_ck hM.1 (b_eq (o_fresh hM h h4 hB hN hO) (b_ck hM.1 (b_eq (o_bounded hM h) (b_eq (t_isPrime (k := 3) (by omega) (by omega)) (wp_ifp (by decide) ?_)))))
  unfold wp
  exact ⟨_, _, o_j38 hM h, q⟩
theorem o_c38 {Q : Unit → Hp → Prop} {v : Int64} {p : Int32} (hM : MS K A 224) (h : I 224 11 = 5) (q : Q () (K, I, J, A)) : wp (mRq (¬ (2 : Int32) = 0) (if irem (p - (1 : Int32)) 2 = 0 then f_X13_readFieldLine_j71 (some 224) v p 2 else mBd (mCk 11 (some 224) (f_X13_wrong (some 224) (4 : Int32))) (fun _ => f_X13_readFieldLine_j71 (some 224) v p 2))) Q (K, I, J, A) := by
  refine wp_rq (by decide) ?_
  by_cases hc : irem (p - (1 : Int32)) 2 = 0
  · refine wp_ifp hc ?_
    unfold wp
    exact ⟨_, _, o_j71 hM h, q⟩
  · refine wp_ifn hc (b_ck hM.1 (b_eq (o_wrong hM h) ?_))
    unfold wp
    exact ⟨_, _, o_j71 hM h, q⟩
end
