/-! ===== tokens: the reference goes on, whole ===== -/
section
variable {β : Type} {kw : Nat → Int64} {K : List (Nat × Nat)} {I I' : Nat → Nat → Int32} {J J' : Nat → Nat → Int64} {A : Nat → Nat → Option Nat} {w : WD}
variable {b : Nat → Nat} {n t : Nat}
theorem kdp_of {p : Nat} (hp : ps b n t = p) (h : p < n) : kd' kw b n t = tkK kw b n p ∧ vl kw b n t = tkV kw b n p := by
  subst hp
  exact ⟨if_pos h, if_pos h⟩
theorem t_goesOn {Q : Unit → Hp → Prop} (hM : MS K A 224) (hB : RB I b n) (h11 : ¬ I 224 11 = 5) (hs : ∃ s, s ≤ n ∧ I 224 10 = zn s ∧ run isSp b n s = ps b n t)
    (q : ∀ I' J', RF I J I' J' → RT I' J' kw b n t → ¬ I' 224 11 = 5 → Q () (K, I', J', A)) : wp (f_X13_goesOn (some 224)) Q (K, I, J, A) := by
  have hn := hB.1
  have hb : ∀ i, i < n → b i < 256 := fun i hi => (hB.2.2 i hi).1
  obtain ⟨s0, hs1, hs2, hs3⟩ := hs
  unfold f_X13_goesOn
  refine b_getI hM.1 (wp_ifp h11 ?_)
  unfold f_X13_goesOn_l9
  refine while0 (fun m I' J' => ∃ s, m = n - s ∧ s ≤ n ∧ I' 224 10 = zn s ∧ run isSp b n s = ps b n t ∧ RF I J I' J') ?_ fuel (n - s0) _ _ (by unfold fuel; omega) ⟨s0, rfl, hs1, hs2, hs3, RF.rfl'⟩
  rintro m I' J' R ⟨s, rfl, hsn, h10, hrun, hF⟩ hR
  have hB' := hB.mv hF
  unfold f_X13_goesOn_b9
  refine b_getIv hM.1 h10 (b_ck hM.1 (b_eq (t_byteAt hM hB' hsn) ?_))
  by_cases hsp : s < n ∧ isSp (b s) = true
  · have h32 : b s = 32 := by have := hsp.2; unfold isSp at this; simpa using this
    have e : byV b n s = 32 := by unfold byV; rw [if_pos hsp.1, h32]; rfl
    refine wp_ifn (fun q => q e) (b_getIv hM.1 h10 (b_putI hM.1 (by decide) ?_))
    rw [zn_succ]
    exact hR (n - (s + 1)) _ _ (by omega) ⟨s + 1, rfl, by omega, st2_at, (run_go hsp).symm.trans hrun, hF.trans (RF.i (by omega))⟩
  · have hps : ps b n t = s := by rw [← hrun, run_no hsp]
    have e : ¬ byV b n s = 32 := by
      intro q
      apply hsp
      unfold byV at q
      by_cases h : s < n
      · rw [if_pos h] at q
        have := hb s h
        rw [show (32 : Int32) = zn 32 from rfl, zn_inj (by omega) (by omega)] at q
        exact ⟨h, by unfold isSp; simp [q]⟩
      · rw [if_neg h] at q
        exact absurd q (by decide)
    refine wp_ifp e (b_getIv hM.1 h10 (b_putI hM.1 (by decide) (b_putI hM.1 (by decide) (b_putI hM.1 (by decide) (b_getIv hM.1 ((st2_nk (by decide)).trans ((st2_nk (by decide)).trans ((st2_nk (by decide)).trans h10))) ?_)))))
    have hF3 : RF I J (st2 (st2 (st2 I' 224 12 (zn s)) 224 11 0) 224 13 0) J' := ((hF.trans (RF.i (by omega))).trans (RF.i (by omega))).trans (RF.i (by omega))
    have g12 : st2 (st2 (st2 I' 224 12 (zn s)) 224 11 0) 224 13 0 224 12 = zn s := by rw [st2_nk (by decide), st2_nk (by decide), st2_at]
    have g11 : st2 (st2 (st2 I' 224 12 (zn s)) 224 11 0) 224 13 0 224 11 = 0 := by rw [st2_nk (by decide), st2_at]
    have g10 : st2 (st2 (st2 I' 224 12 (zn s)) 224 11 0) 224 13 0 224 10 = zn s := by rw [st2_nk (by decide), st2_nk (by decide), st2_nk (by decide)]; exact h10
    generalize st2 (st2 (st2 I' 224 12 (zn s)) 224 11 0) 224 13 0 = I3 at hF3 g12 g11 g10 ⊢
    have hB3 := hB.mv hF3
    refine b_ck hM.1 (b_eq (t_byteAt hM hB3 hsn) ?_)
    by_cases hlt : s < n
    · obtain ⟨eK, eV⟩ := kdp_of (kw := kw) hps hlt
      have hN := tkN_rng (b := b) hlt
      have nxt : ps b n (t + 1) = run isSp b n (tkN b n s) := by rw [ps_s (by omega), hps]
      have ev : byV b n s = zn (b s) := if_pos hlt
      have hbs := hb s hlt
      refine wp_ifp ?_ (b_eq (t_isLR hb) ?_)
      · rw [ev]
        intro q
        rw [z_m1, zn_zi, zi_inj (by omega) (by omega) (by omega) (by omega)] at q
        omega
      rw [show decide (s < n) = true from by simp [hlt], Bool.true_and]
      cases hL : isL (b s) with
      | true =>
        have eN : tkN b n s = run isL b n s := by unfold tkN; rw [if_pos hL]
        unfold tkK at eK
        unfold tkV at eV
        rw [if_pos hL] at eK eV
        refine wp_ifn (by decide) (b_putJ hM.1 (by decide) (t_goWord hM hB3 hlt g10 st2_at g11 (fun I4 J4 f4 f12 f10 fok fbad => ?_)))
        refine q I4 J4 (hF3.trans (RF.j.trans f4)) ⟨by rw [f12, g12, hps], ?_, fun _ => ⟨tkN b n s, hN.2, by rw [f10, eN], nxt.symm⟩⟩ ?_
        · by_cases h8 : run isL b n s - s ≤ 8
          · obtain ⟨x1, x2⟩ := fok h8
            rw [if_pos h8] at eK eV
            cases hk : kpt kw (wvF b s (run isL b n s - s)) with
            | some i =>
              rw [hk] at eK eV
              exact Or.inr (Or.inr (Or.inr (Or.inr (Or.inl ⟨eK, x1, i, by rw [x2]; exact hk, eV⟩))))
            | none =>
              rw [hk] at eK eV
              exact Or.inr (Or.inr (Or.inr (Or.inr (Or.inr ⟨eK, x1, by rw [x2]; exact eV.symm, by rw [eV]; exact hk⟩))))
          · rw [if_neg h8] at eK
            exact Or.inr (Or.inl ⟨eK, fbad (by omega)⟩)
        · by_cases h8 : run isL b n s - s ≤ 8
          · rw [(fok h8).1]; decide
          · rw [fbad (by omega)]; decide
      | false =>
        have hL' : ¬ isL (b s) = true := by rw [hL]; decide
        refine wp_ifp (by decide) (b_eq (t_isDR hb) ?_)
        rw [show decide (s < n) = true from by simp [hlt], Bool.true_and]
        unfold tkK at eK
        unfold tkV at eV
        rw [if_neg hL'] at eK eV
        cases hD : isD (b s) with
        | true =>
          have eN : tkN b n s = run isD b n s := by unfold tkN; rw [if_neg hL', if_pos hD]
          rw [if_pos hD] at eK eV
          refine wp_ifn (by decide) (b_putI hM.1 (by decide) (t_goWhole hM (hB3.mv (J := J') (J' := J') (RF.i (by omega))) hlt ((st2_nk (by decide)).trans g10) st2_at ((st2_nk (by decide)).trans g11) (fun I4 J4 f4 f12 f10 fok fbad => ?_)))
          refine q I4 J4 (hF3.trans ((RF.i (by omega)).trans f4)) ⟨by rw [f12, st2_nk (by decide), g12, hps], ?_, fun _ => ⟨tkN b n s, hN.2, by rw [f10, eN], nxt.symm⟩⟩ ?_
          · by_cases h8 : run isD b n s - s ≤ 3
            · obtain ⟨x1, x2⟩ := fok h8
              rw [if_pos h8] at eK
              exact Or.inr (Or.inr (Or.inl ⟨eK, x1, by rw [x2]; exact eV.symm⟩))
            · rw [if_neg h8] at eK
              exact Or.inr (Or.inl ⟨eK, fbad (by omega)⟩)
          · by_cases h8 : run isD b n s - s ≤ 3
            · rw [(fok h8).1]; decide
            · rw [fbad (by omega)]; decide
        | false =>
          have hD' : ¬ isD (b s) = true := by rw [hD]; decide
          have eN : tkN b n s = s + 1 := by unfold tkN; rw [if_neg hL', if_neg hD']
          rw [if_neg hD'] at eK eV
          refine wp_ifp (by decide) ?_
          rw [ev]
          have sgn : isSg (b s) = true → wp (f_X13_goesOn_j291 (some 224) (zn (b s))) Q (K, I3, J', A) := by
            intro hg
            rw [if_pos hg] at eK
            unfold f_X13_goesOn_j291
            refine b_putI hM.1 (by decide) (b_putI hM.1 (by decide) (b_getIv hM.1 ((st2_nk (by decide)).trans ((st2_nk (by decide)).trans g10)) (b_putI hM.1 (by decide) (wp_rt ?_))))
            rw [zn_succ]
            refine q _ _ (((hF3.trans (RF.i (by omega))).trans (RF.i (by omega))).trans (RF.i (by omega))) ⟨?_, Or.inr (Or.inr (Or.inr (Or.inl ⟨eK, ?_, ?_⟩))), fun _ => ⟨tkN b n s, hN.2, by rw [st2_at, eN], nxt.symm⟩⟩ ?_
            · rw [st2_nk (by decide), st2_nk (by decide), st2_nk (by decide), g12, hps]
            · rw [st2_nk (by decide), st2_nk (by decide), st2_at]
            · rw [st2_nk (by decide), st2_at]; exact eV.symm
            · rw [st2_nk (by decide), st2_nk (by decide), st2_at]; decide
          have bad : isSg (b s) = false → wp (mRt ()) Q (K, I3, J', A) := by
            intro hg
            have hg' : ¬ isSg (b s) = true := by rw [hg]; decide
            rw [if_neg hg'] at eK
            exact wp_rt (q _ _ hF3 ⟨by rw [g12, hps], Or.inr (Or.inl ⟨eK, g11⟩), fun h => absurd eK h⟩ (by rw [g11]; decide))
          have one : ∀ (c : Nat) (F : Mo Unit), c < 256 → (b s = c → isSg (b s) = true) → (b s ≠ c → wp F Q (K, I3, J', A)) → wp (if zn (b s) = zn c then f_X13_goesOn_j291 (some 224) (zn (b s)) else F) Q (K, I3, J', A) := by
            intro c F hc h1 h2
            refine wp_ifq (zn_inj (by omega) (by omega)) ?_
            by_cases h : b s = c
            · exact wp_ifp h (sgn (h1 h))
            · exact wp_ifn h (h2 h)
          refine one 59 _ (by decide) (fun h => by rw [h]; decide) (fun h1 => ?_)
          refine one 44 _ (by decide) (fun h => by rw [h]; decide) (fun h2 => ?_)
          refine one 43 _ (by decide) (fun h => by rw [h]; decide) (fun h3 => ?_)
          refine one 45 _ (by decide) (fun h => by rw [h]; decide) (fun h4 => ?_)
          refine one 42 _ (by decide) (fun h => by rw [h]; decide) (fun h5 => ?_)
          refine one 40 _ (by decide) (fun h => by rw [h]; decide) (fun h6 => ?_)
          refine wp_ifq (not_congr (zn_inj (b := 41) (by omega) (by omega))) ?_
          by_cases h7 : b s = 41
          · exact wp_ifn (fun q => q h7) (sgn (by rw [h7]; decide))
          · exact wp_ifp h7 (bad (by unfold isSg; simp [h1, h2, h3, h4, h5, h6, h7]))
    · have ev : byV b n s = -1 := if_neg hlt
      refine wp_ifn (fun q => q ev) (b_putI hM.1 (by decide) (wp_rt (q _ _ (hF3.trans (RF.i (by omega))) ⟨?_, Or.inl ⟨?_, st2_at⟩, fun _ => ⟨s, hsn, (st2_nk (by decide)).trans g10, ?_⟩⟩ (by rw [st2_at]; decide))))
      · rw [st2_nk (by decide), g12, hps]
      · unfold kd'; rw [if_neg (by omega)]
      · rw [hrun, ps_e (by omega)]
end
