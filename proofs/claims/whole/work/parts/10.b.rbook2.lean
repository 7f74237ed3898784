/-! ===== the whole text: the reference ===== -/
def fks : Nat → List (Nat × Nat)
  | 0 => []
  | m + 1 => fks m ++ fldK
section
variable {β : Type} {kw : Nat → Int64} {K : List (Nat × Nat)} {I I' : Nat → Nat → Int32} {J J' : Nat → Nat → Int64} {A : Nat → Nat → Option Nat} {w : WD}
variable {b : Nat → Nat} {n t m p f fo rb r dd R e : Nat} {B : BKD} {N : NMD} {Kb : List (Nat × Nat)} {A' A'' : Nat → Nat → Option Nat}
theorem sFld_bnf {B' : BKD} {N' : NMD} {t' : Nat} (h : sFld b n B N t = Sum.inr (B', N', t')) : bnf B' = bnf B + 1 ∧ bnf B < 4 ∨ bnf B' = bnf B + 1 := by
  unfold sFld at h
  obtain ⟨_, h⟩ := ifr h
  obtain ⟨_, h⟩ := ifr h
  obtain ⟨_, h⟩ := ifr h
  obtain ⟨_, h⟩ := ifr h
  obtain ⟨_, h⟩ := ifr h
  obtain ⟨_, h⟩ := ifr h
  obtain ⟨_, h⟩ := ifr h
  obtain ⟨_, h⟩ := ifr h
  have h7 := Sum.inr.inj h
  have e1 := congrArg Prod.fst h7
  dsimp only at e1
  rw [← e1]
  exact Or.inr rfl
theorem sEqu_ok {B' : BKD} {N' : NMD} {t' : Nat} (hNB : okNB B N) (h : sEqu b n B N t = Sum.inr (B', N', t')) : bnf B' = bnf B ∧ okNB B' N' := by
  unfold sEqu at h
  cases hi : sInF b n N (t + 2) with
  | inl e =>
    rw [hi] at h
    obtain ⟨_, h⟩ := ifr h
    obtain ⟨_, h⟩ := ifr h
    obtain ⟨_, h⟩ := ifr h
    exact (nrl h).elim
  | inr ft =>
    rw [hi] at h
    dsimp only at h
    cases hm : sTms b n (bfp B ft.1) 5 0 (fun _ => 0) (fun _ => 0) (t + 5) with
    | inl e =>
      rw [hm] at h
      obtain ⟨_, h⟩ := ifr h
      obtain ⟨_, h⟩ := ifr h
      obtain ⟨_, h⟩ := ifr h
      obtain ⟨_, h⟩ := ifr h
      exact (nrl h).elim
    | inr q =>
      obtain ⟨q1, q2, q3, q4⟩ := q
      rw [hm] at h
      dsimp only at h
      obtain ⟨_, h⟩ := ifr h
      obtain ⟨_, h⟩ := ifr h
      obtain ⟨_, h⟩ := ifr h
      obtain ⟨_, h⟩ := ifr h
      obtain ⟨_, h⟩ := ifr h
      obtain ⟨_, h⟩ := ifr h
      obtain ⟨_, h⟩ := ifr h
      have h7 := Sum.inr.inj h
      have e1 := congrArg Prod.fst h7
      have e2 := congrArg (fun q => q.2.1) h7
      dsimp only at e1 e2
      rw [← e1, ← e2]
      exact ⟨rfl, okNB_equ hNB⟩
/-- the end of reading, once it is over -/
theorem o_b2 {Q : Unit → Hp → Prop} {Rk : Int32 → Mo Unit} (hM : MS K A 224) (h : I 224 11 = 5) (h4 : A 224 4 = some rb) (hB : BS K A rb) (q : Q () (K, I, J, A)) : wp (f_X13_readBook_b2 (some 224) Rk 0) Q (K, I, J, A) := by
  unfold f_X13_readBook_b2 f_X13_readBook_j33
  refine wp_ifp rfl (b_getIv hM.1 h (wp_ifn (by decide) (b_ck hM.1 (b_eq (o_wrong hM h) (b_getA hM.1 h4 (b_getI hB.1 ?_))))))
  by_cases hz : I rb 0 = 0
  · exact wp_ifn (fun q => q hz) (b_ck hM.1 (b_eq (o_wrong hM h) (wp_rt q)))
  · exact wp_ifp hz (wp_rt q)
theorem SK.ga {L : List (Nat × Nat)} (h : SK K) : SK (K ++ L) := fun i hi => ⟨gr_app _ _ _ (by decide) (h i hi).1, gr_app _ _ _ (by decide) (h i hi).2⟩
theorem t_rBk {Q : Unit → Hp → Prop} (hb : 236 ≤ rb) : ∀ k n0 t B N I J A, 901 ≤ t + k → t ≤ 900 → k + 1 < n0 → MS (Kb ++ fks (bnf B)) A 224 → SK (Kb ++ fks (bnf B)) → RRd (Kb ++ fks (bnf B)) I J A rb b n B N t → okNB B N →
    (∀ kk s m I' J' A', sBk b n k B N t = Sum.inl (kk, s) → m ≤ 4 → RFr rb I J A I' J' A' → MS (Kb ++ fks m) A' 224 → I' 224 15 = zn kk → I' 224 16 = zn (ps b n s) → Q () (Kb ++ fks m, I', J', A')) →
    (∀ B' N' I' J' A', sBk b n k B N t = Sum.inr (B', N') → RFr rb I J A I' J' A' → MS (Kb ++ fks (bnf B')) A' 224 → I' 224 15 = 0 → A' 224 4 = some rb → BS (Kb ++ fks (bnf B')) A' rb → RBC (Kb ++ fks (bnf B')) I' J' A' rb B' → okB B' → 1 ≤ bnf B' → Q () (Kb ++ fks (bnf B'), I', J', A')) →
    wp (lq1 (f_X13_readBook_b2 (some 224)) n0 1) Q (Kb ++ fks (bnf B), I, J, A) := by
  intro k
  induction k with
  | zero => intro n0 t B N I J A h1 h2; omega
  | succ k ih =>
    intro n0 t B N I J A htk ht hn0 hM hSK hR hNB qe qs
    obtain ⟨n1, rfl⟩ : ∃ n1, n0 = n1 + 2 := ⟨n0 - 2, by omega⟩
    show wp (f_X13_readBook_b2 (some 224) (lq1 (f_X13_readBook_b2 (some 224)) (n1 + 1)) 1) Q (Kb ++ fks (bnf B), I, J, A)
    unfold f_X13_readBook_b2
    have hn := hR.2.1.1.1
    have hokB := hR.2.2.2.1
    have hf4 := hokB.1.1
    have h4 := hR.1.1
    have hBS := hR.1.2.2
    have hRT := hR.2.1.2.1
    have h5 := hR.2.1.2.2.1
    have z15 := hR.2.1.2.2.2
    -- a fault in the line
    have er : ∀ {kk s : Nat} {I1 : Nat → Nat → Int32} {J1 : Nat → Nat → Int64}, sL0 b n B N t = Sum.inl (kk, s) → RFr rb I J A I1 J1 A → I1 224 11 = 5 → I1 224 15 = zn kk → I1 224 16 = zn (ps b n s) → wp (mBd (mCk 11 (some 224) (f_X13_eatsSign (some 224) (59 : Int32))) (fun r4 => lq1 (f_X13_readBook_b2 (some 224)) (n1 + 1) r4)) Q (Kb ++ fks (bnf B), I1, J1, A) := by
      intro kk s I1 J1 g F o1 o2 o3
      refine b_ck hM.1 (b_eq (o_eatsSign hM o1) ?_)
      refine o_b2 hM o1 h4 hBS (qe kk s (bnf B) I1 J1 A ?_ hf4 F hM o2 o3)
      unfold sBk
      rw [sLine_0, g]; rfl
    -- the line is good
    have go : ∀ {B1 : BKD} {N1 : NMD} {t1 : Nat} {I1 : Nat → Nat → Int32} {J1 : Nat → Nat → Int64} {A1 : Nat → Nat → Option Nat}, sL0 b n B N t = Sum.inr (B1, N1, t1) → t < t1 → RFr rb I J A I1 J1 A1 → MS (Kb ++ fks (bnf B1)) A1 224 → SK (Kb ++ fks (bnf B1)) → RRd (Kb ++ fks (bnf B1)) I1 J1 A1 rb b n B1 N1 t1 → okNB B1 N1 → wp (mBd (mCk 11 (some 224) (f_X13_eatsSign (some 224) (59 : Int32))) (fun r4 => lq1 (f_X13_readBook_b2 (some 224)) (n1 + 1) r4)) Q (Kb ++ fks (bnf B1), I1, J1, A1) := by
      intro B1 N1 t1 I1 J1 A1 g htt F hM1 hSK1 hR1 hNB1
      have hokB1 := hR1.2.2.2.1
      have hf41 := hokB1.1.1
      have e0 : sBk b n (k + 1) B N t = (match fin1 b n (Sum.inr (B1, N1, t1)) with
        | Sum.inl e => Sum.inl e
        | Sum.inr q => if kd' kwC b n q.2.2 = 0 then (if bnf q.1 = 0 then Sum.inl (6, q.2.2) else Sum.inr (q.1, q.2.1)) else sBk b n k q.1 q.2.1 (q.2.2 + 1)) := by
        show (match sLine b n B N t with
          | Sum.inl e => (Sum.inl e : (Nat × Nat) ⊕ (BKD × NMD))
          | Sum.inr q => if kd' kwC b n q.2.2 = 0 then (if bnf q.1 = 0 then Sum.inl (6, q.2.2) else Sum.inr (q.1, q.2.1)) else sBk b n k q.1 q.2.1 (q.2.2 + 1)) = _
        rw [sLine_0, g]
      have fin1e : fin1 b n (Sum.inr (B1, N1, t1)) = (if endT b n t1 = true then Sum.inr (B1, N1, t1) else Sum.inl (1, t1)) := rfl
      have hBt1 := hR1.2.1.1
      have hRT1 := hR1.2.1.2.1
      have h51 := hR1.2.1.2.2.1
      refine b_ck hM1.1 (wp_bd (t_eatsSign (c := 59) hM1 hBt1 hRT1 h51 (fun g1 I2 J2 f2 r2 s2 => ?_) (fun g1 => ?_)))
      · have hE : endT b n t1 = true := by unfold endT; rw [g1, Bool.or_true]
        have hk3 := isG_k g1
        have ht1 := tok_lt (b := b) (t := t1) hn (by omega)
        rw [hE, if_pos rfl] at fin1e
        rw [fin1e] at e0
        dsimp only at e0
        rw [if_neg (by omega)] at e0
        rw [e0] at qe qs
        have W2 : RW I1 J1 I2 J2 := f2.rw'
        have hR2 : RRd (Kb ++ fks (bnf B1)) I2 J2 A1 rb b n B1 N1 (t1 + 1) := ⟨hR1.1, ⟨hBt1.rw' W2, r2, s2, by rw [f2.2.1 15 (by omega)]; exact hR1.2.1.2.2.2⟩, ⟨hR1.2.2.1.1.rw' hokB1 hb W2, hR1.2.2.1.2.rw' hb W2⟩, hR1.2.2.2⟩
        exact ih (n1 + 1) (t1 + 1) B1 N1 I2 J2 A1 (by omega) (by omega) (by omega) hM1 hSK1 hR2 hNB1 (fun kk s m I3 J3 A3 g3 hm F3 => qe kk s m I3 J3 A3 g3 hm (F.trans (W2.rfr.trans F3))) (fun B3 N3 I3 J3 A3 g3 F3 => qs B3 N3 I3 J3 A3 g3 (F.trans (W2.rfr.trans F3)))
      · show wp (f_X13_readBook_b2 (some 224) (lq1 (f_X13_readBook_b2 (some 224)) n1) 0) Q (Kb ++ fks (bnf B1), I1, J1, A1)
        unfold f_X13_readBook_b2
        by_cases hz : kd' kwC b n t1 = 0
        · have hE : endT b n t1 = true := by unfold endT; rw [hz]; rfl
          rw [hE, if_pos rfl] at fin1e
          rw [fin1e] at e0
          dsimp only at e0
          rw [if_pos hz] at e0
          have h1 : I1 224 11 = 1 := by
            obtain ⟨_, hh, _⟩ := hRT1
            rcases hh with ⟨h1, h2⟩ | ⟨h1, _⟩ | ⟨h1, _⟩ | ⟨h1, _⟩ | ⟨h1, _⟩ | ⟨h1, _⟩
            · exact h2
            all_goals omega
          refine wp_ifp rfl (b_getIv hM1.1 h1 (wp_ifp rfl ?_))
          unfold f_X13_readBook_j33
          refine b_getA hM1.1 hR1.1.1 (b_getIv hR1.1.2.2.1 hR1.2.2.1.1.1.1 ?_)
          by_cases hbf : bnf B1 = 0
          · rw [if_pos hbf] at e0
            refine wp_ifn (by rw [hbf]; exact fun q => q rfl) (b_ck hM1.1 (b_eq (t_wrong (k := 6) hM1 hRT1 h51) (wp_rt (qe 6 t1 (bnf B1) _ J1 A1 e0 hf41 (F.trans RW.over.rfr) hM1 over_15 over_16))))
          · rw [if_neg hbf] at e0
            refine wp_ifp ?_ (wp_rt (qs B1 N1 I1 J1 A1 e0 F hM1 hR1.2.1.2.2.2 hR1.1.1 hR1.1.2.2 hR1.2.2.1.1 hokB1 (by omega)))
            show ¬ zn (bnf B1) = 0
            rw [zn0 (by omega)]; exact hbf
        · have hE : endT b n t1 = false := by unfold endT; rw [g1, beq_eq_false_iff_ne.mpr hz]; rfl
          rw [hE, if_neg (by decide)] at fin1e
          rw [fin1e] at e0
          dsimp only at e0
          have h1 : ¬ I1 224 11 = 1 := by
            obtain ⟨_, hh, _⟩ := hRT1
            rcases hh with ⟨h1, h2⟩ | ⟨h1, h2⟩ | ⟨h1, h2, _⟩ | ⟨h1, h2, _⟩ | ⟨h1, h2, _⟩ | ⟨h1, h2, _⟩
            · omega
            all_goals (rw [h2]; decide)
          refine wp_ifp rfl (b_getI hM1.1 (wp_ifn h1 (b_ck hM1.1 (b_eq (t_wrong (k := 1) hM1 hRT1 h51) ?_))))
          unfold f_X13_readBook_j33
          have q1 := qe 1 t1 (bnf B1) _ J1 A1 e0 hf41 (F.trans RW.over.rfr) hM1 over_15 over_16
          refine b_getA hM1.1 hR1.1.1 (b_getI hR1.1.2.2.1 ?_)
          by_cases hz0 : (over I1 1 (ps b n t1)) rb 0 = 0
          · exact wp_ifn (fun q => q hz0) (b_ck hM1.1 (b_eq (o_wrong hM1 over_11) (wp_rt q1)))
          · exact wp_ifp hz0 (wp_rt q1)
    refine wp_ifn (by decide) (b_ck hM.1 (wp_bd ?_))
    unfold f_X13_readLine
    refine b_ck hM.1 (b_eq (t_isWord (i := 0) hM hSK (by decide) hRT) ?_)
    have sl : sL0 b n B N t = (if isW b n t 0 = true then sFld b n B N t else if isW b n t 1 = true then sEqu b n B N t else if isW b n t 2 = true then sLet b n B N t else Sum.inl (1, t)) := rfl
    by_cases c0 : isW b n t 0 = true
    · rw [if_pos c0] at sl
      rw [c0]
      refine wp_ifn (by decide) (b_ck hM.1 (wp_bd (t_rField hM hSK hR (by have := isW_k c0; omega) (fun kk s I1 J1 g ov => wp_rt (er (sl.trans g) ov.1.rfr ov.2.1 ov.2.2.1 ov.2.2.2)) (fun B1 N1 t1 I2 J2 A2 I1 J1 g W1 eI eJ eA hR1 => wp_rt ?_))))
      obtain ⟨hNB1, et⟩ := sFld_ok g hNB
      have hbn : bnf B1 = bnf B + 1 := by
        rcases sFld_bnf g with h | h
        · exact h.1
        · exact h
      have eK : Kb ++ fks (bnf B) ++ fldK = Kb ++ fks (bnf B1) := by rw [hbn, List.append_assoc]; rfl
      have hl : rb + 11 < (Kb ++ fks (bnf B)).length := kk_lt hBS.2.2.1.2.2.2.2.2.2.2.2.2.2 (by decide)
      have hM2 : MS (Kb ++ fks (bnf B) ++ fldK) A2 224 := hM.ga gr_app (fun j _ => by rw [eA 224 (by omega) (by omega)])
      have hSK2 : SK (Kb ++ fks (bnf B) ++ fldK) := hSK.ga
      rw [eK] at hM2 hSK2 hR1 ⊢
      refine go (sl.trans g) (by omega) (W1.rfr.trans (RFr.hi hb (fun x hx => eI x (by omega) (by omega) (by omega) (by omega)) (fun x hx => eJ x (by omega) (by omega)) (fun x hx => eA x (by omega) (by omega)))) hM2 hSK2 hR1 hNB1
    rw [if_neg c0] at sl
    rw [Bool.eq_false_iff.mpr c0]
    refine wp_ifp rfl (b_ck hM.1 (b_eq (t_isWord (i := 1) hM hSK (by decide) hRT) ?_))
    by_cases c1 : isW b n t 1 = true
    · rw [if_pos c1] at sl
      rw [c1]
      refine wp_ifn (by decide) (b_ck hM.1 (wp_bd (t_rEqu hM hSK hR hNB (by have := isW_k c1; omega) (fun kk s I1 J1 g R1 o1 o2 o3 => wp_rt (er (sl.trans g) R1.rfr o1 o2 o3)) (fun B1 N1 t1 I2 J2 I1 J1 g R1 e2 hR1 => wp_rt ?_))))
      obtain ⟨hbn, hNB1⟩ := sEqu_ok hNB g
      have et := sEqu_t g
      rw [← hbn] at hM hSK hR1 ⊢
      exact go (sl.trans g) (by omega) (R1.rfr.trans (RFr.hi hb (fun x hx => (e2 x (Or.inl hx)).1) (fun x hx => (e2 x (Or.inl hx)).2) (fun _ _ => rfl))) hM hSK hR1 hNB1
    rw [if_neg c1] at sl
    rw [Bool.eq_false_iff.mpr c1]
    refine wp_ifp rfl (b_ck hM.1 (b_eq (t_isWord (i := 2) hM hSK (by decide) hRT) ?_))
    by_cases c2 : isW b n t 2 = true
    · rw [if_pos c2] at sl
      rw [c2]
      refine wp_ifn (by decide) (b_ck hM.1 (wp_bd (t_rLet hM hSK hR hNB (by have := isW_k c2; omega) (fun kk s I1 J1 g R1 o1 o2 o3 => wp_rt (er (sl.trans g) R1 o1 o2 o3)) (fun B1 N1 t1 I1 J1 g R1 hR1 hNB1 htt hbn => wp_rt ?_))))
      rw [← hbn] at hM hSK hR1 ⊢
      exact go (sl.trans g) htt.1 R1 hM hSK hR1 hNB1
    rw [if_neg c2] at sl
    rw [Bool.eq_false_iff.mpr c2]
    exact wp_ifp rfl (b_ck hM.1 (b_eq (t_wrong (k := 1) hM hRT h5) (wp_rt (er sl RW.over.rfr over_11 over_15 over_16))))
end
