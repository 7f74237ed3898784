/-! ===== tokens: the class's split ===== -/
section
variable {β : Type} {kw : Nat → Int64} {K : List (Nat × Nat)} {I I' : Nat → Nat → Int32} {J J' : Nat → Nat → Int64} {A : Nat → Nat → Option Nat} {w : WD}
variable {b : Nat → Nat} {n T t : Nat}
def sgL : List Int32 := [59, 44, 43, 45, 42, 40, 41]
def sgI (x : Nat) : Option Nat := fd (fun i => sgL.getD i 0 == byS x) 7 0
theorem sgI_sg : ∀ x, x < 256 → (sgI x).isSome = isSg x := by decide +kernel
theorem chr_id : ∀ x, x < 256 → ((zn x).toUInt32 % 65536).toInt32 = zn x := by decide +kernel
theorem t_indexOf {x : Nat} (hS : SK K) (hx : x < 256) : mCkS (some 4) (f_J0_indexOf_0f7a4 (some 4) (zn x)) (K, I, J, A) = some ((match sgI x with | some i => zn i | none => -1), (K, I, J, A)) := by
  have k4 : kk K 4 = (9, 1) := (hS 1 (by decide)).1
  have k21 : kk K 21 = (10, 1) := (hS 1 (by decide)).2
  have ck : ∀ {α : Type} {F : Mo α}, mCkS (some 4) F (K, I, J, A) = F (K, I, J, A) := by
    intro α F
    exact if_pos (show (kk K 4).1 = 9 ∧ 4 = 3 + (kk K 4).2 ∧ (kk K 4).2 < 16 by rw [k4]; decide)
  have sv : mStrVal (some 4) (K, I, J, A) = some (some 21, (K, I, J, A)) := by
    refine (if_pos (show (kk K 4).1 = 9 ∧ 4 = 3 + (kk K 4).2 ∧ (kk K 4).2 < 16 by rw [k4]; decide)).trans ?_
    show some (some (20 + (kk K 4).2), _) = _
    rw [k4]; rfl
  have sc : mStrCod (some 4) (K, I, J, A) = some (0, (K, I, J, A)) := if_pos (show (kk K 4).1 = 9 ∧ 4 = 3 + (kk K 4).2 ∧ (kk K 4).2 < 16 by rw [k4]; decide)
  have ln : mLenS (some 21) (K, I, J, A) = some (7, (K, I, J, A)) := by
    refine (if_pos (show (kk K 21).1 = 10 ∧ 21 = 20 + (kk K 21).2 ∧ (kk K 21).2 < 16 by rw [k21]; decide)).trans ?_
    show some (Int32.ofNat (sLn.getD (kk K 21).2 0), _) = _
    rw [k21]; rfl
  have ld : ∀ i, i < 7 → mLdS (some 21) (zn i) (K, I, J, A) = some (sgL.getD i 0, (K, I, J, A)) := by
    intro i hi
    refine (if_pos (show ((kk K 21).1 = 10 ∧ 21 = 20 + (kk K 21).2 ∧ (kk K 21).2 < 16) ∧ ¬ (zn i < 0 ∨ sLn.getD (kk K 21).2 0 ≤ (zn i).toNatClampNeg) by rw [k21]; exact ⟨by decide, idx_ok (n := 7) hi (by omega)⟩)).trans ?_
    show some ((sBy.getD (kk K 21).2 []).getD (zn i).toNatClampNeg 0, _) = _
    rw [k21, zn_clamp (by omega)]; rfl
  have bck : ∀ {α β : Type} {F : Mo α} {G : α → Mo β} {Q : β → Hp → Prop}, wp (mBd F G) Q (K, I, J, A) → wp (mBd (mCkS (some 4) F) G) Q (K, I, J, A) := by
    intro α β F G Q h
    have e : mBd (mCkS (some 4) F) G (K, I, J, A) = mBd F G (K, I, J, A) := by unfold mBd; rw [ck]
    unfold wp
    rw [e]
    exact h
  have bsv : ∀ {β : Type} {G : Option Nat → Mo β} {Q : β → Hp → Prop}, wp (G (some 21)) Q (K, I, J, A) → wp (mBd (mStrVal (some 4)) G) Q (K, I, J, A) := fun h => b_eq sv h
  have len : ∀ {β : Type} {G : Int32 → Mo β} {Q : β → Hp → Prop}, wp (G 7) Q (K, I, J, A) → wp (mBd (f_J0_length_8abf5 (some 4)) G) Q (K, I, J, A) := by
    intro β G Q h
    unfold f_J0_length_8abf5
    refine b_assoc (bsv (b_assoc (b_eq ln (b_assoc (bck ?_)))))
    unfold f_J0_coder_7d493
    exact b_ite (wp_ifn (by decide) (b_assoc (b_eq sc (b_rq (by decide) (b_rt (b_rt h))))))
  rw [ck]
  apply wp_get
  unfold f_J0_indexOf_0f7a4
  refine bck ?_
  unfold f_J0_indexOf_7cf53
  refine b_assoc (bck ?_)
  unfold f_J0_isLatin1_aae02
  refine b_ite (wp_ifn (by decide) (b_assoc (b_eq sc (b_ite (wp_ifn (by decide) (b_rt (b_ite (wp_ifn (by decide) (b_assoc (bsv (b_assoc (bck (len (b_assoc ?_))))))))))))))
  unfold f_J1_indexOf_4cfef
  have ce : f_J1_canEncode_9a6ad (zn x) (K, I, J, A) = some (1, (K, I, J, A)) := by
    have := btw (lo := 0) (hi := 255) (x := x) (h := (K, I, J, A)) (by omega) (by omega) (by omega)
    rw [show (decide (0 ≤ x) && decide (x ≤ 255)) = true from by simp; omega] at this
    exact this
  have mx : f_J9_max_7cf53 0 0 (K, I, J, A) = some (0, (K, I, J, A))  := by
    unfold f_J9_max_7cf53
    apply wp_get'
    exact wp_ifn (by decide) (wp_rt ⟨rfl, rfl⟩)
  have mn : f_J9_min_7cf53 7 7 (K, I, J, A) = some (7, (K, I, J, A)) := by
    unfold f_J9_min_7cf53
    apply wp_get'
    exact wp_ifn (by decide) (wp_rt ⟨rfl, rfl⟩)
  refine b_assoc ?_
  refine b_eq ce ?_
  refine b_ite (wp_ifp (by decide) ?_)
  refine b_assoc (b_eq mx ?_)
  refine b_assoc (b_eq ln ?_)
  refine b_assoc (b_eq mn ?_)
  refine b_ite (wp_ifp (by decide) ?_)
  refine b_assoc ?_
  unfold f_J1_indexOfChar_4cfef
  refine wp_bd (b_nm ?_)
  unfold f_J1_indexOfChar_4cfef_l7
  refine pf1 (N := 7) (fun k => ∀ i, 0 ≤ i → i < k → (sgL.getD i 0 == byS x) = false) ?_ ?_ (k := 0) (by omega) (by unfold fuel; omega) (fun i _ hi => by omega)
  · intro k R hk' hno hR
    unfold f_J1_indexOfChar_4cfef_b7
    refine wp_ifn (ge_f (b := 7) (by omega)) (b_eq (ld k hk') ?_)
    by_cases h1 : sgL.getD k 0 = byS x
    · refine wp_ifn (fun q => q h1) (wp_rt (wp_rt ⟨?_, rfl⟩))
      unfold sgI
      rw [fd_some (y := k) (by simp only [beq_iff_eq]; exact h1) 7 0 (by omega) (by omega) (fun i h1 h2 => hno i h1 h2)]
      rfl
    · refine wp_ifp h1 (hR (fun i _ hi => ?_))
      by_cases h2 : i = k
      · subst h2; simpa using h1
      · exact hno i (by omega) (by omega)
  · intro R hno
    unfold f_J1_indexOfChar_4cfef_b7
    refine wp_ifp (ge_t (b := 7) (by omega)) (wp_rt (wp_rt ⟨?_, rfl⟩))
    unfold sgI
    rw [fd_none 7 0 (fun i h1 h2 => hno i h1 (by omega))]
    rfl
/-- on to token t -/
theorem t_step {Q : Unit → Hp → Prop} (hT : TS K A) (hB : TB I J kw b n) (hA : TA I J kw b n T) (hpT : ps b n T = n) (h8 : I 66 8 = zi ((t : Int) - 1)) (ht : t < 100000)
    (q : ∀ I' J', (∀ x, x ≠ 66 → I' x = I x) → (∀ j, j < 8 → I' 66 j = I 66 j) → (∀ x, x ≠ 66 → J' x = J x) → CT I' J' kw b n T t → Q () (K, I', J', A)) : wp (f_X9_step (some 66)) Q (K, I, J, A) := by
  have hT' := hT
  obtain ⟨k66, ⟨a0, a1, a2, a3, a4⟩, k67, k68, k69, k70, k71⟩ := hT'
  have hA' := hA
  obtain ⟨hA1, hA2, hA3⟩ := hA'
  have e : zi ((t : Int) - 1) + 1 = zn t := by
    rw [show (1 : Int32) = zi 1 from rfl, zi_add, zn_zi]; congr 1; omega
  unfold f_X9_step
  refine b_getIv k66 h8 (b_putI k66 (by decide) ?_)
  rw [e]
  have fin : ∀ (x : Int32) (v : Int64), x = zn (kd' kw b n t) → v = vl kw b n t → Q () (K, st2 (st2 I 66 8 (zn t)) 66 9 x, st2 J 66 10 v, A) := by
    intro x v hx hv
    refine q _ _ (fun y hy => by rw [st2_nb hy, st2_nb hy]) (fun j hj => by rw [st2_nk (by omega), st2_nk (by omega)]) (fun y hy => st2_nb hy) ⟨?_, ?_, hpT, ?_, ?_, ?_⟩
    · obtain ⟨h1, h2, h3, h4⟩ := hB
      refine ⟨h1, ?_, fun i hi => ⟨(h3 i hi).1, ?_⟩, fun i hi => ?_⟩
      · rw [st2_nk (by decide), st2_nk (by decide)]; exact h2
      · rw [st2_na (by decide), st2_na (by decide)]; exact (h3 i hi).2
      · rw [st2_na (by decide)]; exact h4 i hi
    · refine ⟨hA1, ?_, fun s hs => ?_⟩
      · rw [st2_nk (by decide), st2_nk (by decide)]; exact hA2
      · obtain ⟨x1, x2, x3, x4⟩ := hA3 s hs
        refine ⟨x1, ?_, ?_, ?_⟩
        · rw [st2_na (by decide), st2_na (by decide)]; exact x2
        · rw [st2_na (by decide)]; exact x3
        · rw [st2_na (by decide), st2_na (by decide)]; exact x4
    · rw [st2_nk (by decide), st2_at]
    · rw [st2_at, hx]
    · rw [st2_at, hv]
  refine b_getIv k66 st2_at (wp_ifn (lt_f (b := 0) (by omega)) (b_getIv k66 st2_at (b_getIv k66 ((st2_nk (by decide)).trans hA2) ?_)))
  by_cases hlt : t < T
  · obtain ⟨x1, x2, x3, x4⟩ := hA3 t hlt
    refine wp_ifn (ge_f (by omega)) (b_getIv k66 st2_at (b_getA k66 a2 (b_len k69 (by decide) (wp_ifn (ge_f (by omega)) (b_getIv k66 st2_at (b_getA k66 a3 (b_len k70 (by decide) (wp_ifn (ge_f (by omega)) ?_))))))))
    unfold f_X9_step_j57
    refine wp_ifn (by decide) (b_getA k66 a2 (b_getIv k66 st2_at (b_ldI k69 (by omega) (by omega) ?_)))
    unfold f_X9_step_j76
    refine b_putI k66 (by decide) (wp_ifn (by decide) (b_getA k66 a3 (b_getIv k66 ((st2_nk (by decide)).trans st2_at) (b_ldJ k70 (by omega) (by omega) (b_putJ k66 (by decide) (wp_rt (fin _ _ ?_ ?_)))))))
    · rw [st2_na (by decide), x2]; unfold kd'; rw [if_pos x1]
    · rw [x3]; unfold vl; rw [if_pos x1]
  · have hp : ¬ ps b n t < n := by
      have := ps_ge hpT (t - T)
      rw [show T + (t - T) = t by omega] at this
      omega
    refine wp_ifp (ge_t (by omega)) ?_
    unfold f_X9_step_j56 f_X9_step_j57
    refine wp_ifp rfl ?_
    unfold f_X9_step_j76
    refine b_putI k66 (by decide) (wp_ifp rfl (b_putJ k66 (by decide) (wp_rt (fin _ _ ?_ ?_))))
    · unfold kd'; rw [if_neg hp]; rfl
    · unfold vl; rw [if_neg hp]
theorem t_split {Q : Unit → Hp → Prop} {cnt held : Nat} (hS : SK K) (hT : TS K A) (h5 : I 66 5 = zn held) (hc : cnt ≤ held) (hh : held ≤ 900) (hb : ∀ i, i < held → (b i < 256 ∧ I 67 i = zn (b i))) (hk : ∀ i, i < 13 → J 68 i = kw i)
    (q : ∀ I' J' T, (∀ x, x ≠ 66 → x ≠ 69 → x ≠ 71 → I' x = I x) → (∀ j, j < 6 → I' 66 j = I 66 j) → (∀ x, x ≠ 66 → x ≠ 70 → J' x = J x) → CT I' J' kw b cnt T 0 → Q () (K, I', J', A)) : wp (f_X9_split (some 66) (zn cnt)) Q (K, I, J, A) := by
  have hT' := hT
  obtain ⟨k66, ⟨a0, a1, a2, a3, a4⟩, k67, k68, k69, k70, k71⟩ := hT'
  unfold f_X9_split
  refine b_getIv k66 h5 ?_
  have mn : f_J9_min_7cf53 (zn cnt) (zn held) (K, I, J, A) = some (zn cnt, (K, I, J, A)) := by
    unfold f_J9_min_7cf53
    apply wp_get'
    exact wp_ifn (gt_f (by omega)) (wp_rt ⟨rfl, rfl⟩)
  refine b_eq mn (b_putI k66 (by decide) (b_putI k66 (by decide) ?_))
  unfold f_X9_split_l21
  refine while2 (fun m x y I' J' => ∃ r i T, x = zn r ∧ y = zn i ∧ m = 900 - i ∧ r ≤ cnt ∧ i ≤ r ∧ T ≤ i ∧ run isSp b cnt r = ps b cnt T ∧ TF I J I' J' ∧ TB I' J' kw b cnt ∧ TA I' J' kw b cnt T) ?_ fuel 900 _ _ _ _ (by unfold fuel; omega) ⟨0, 0, 0, rfl, rfl, rfl, by omega, by omega, by omega, rfl, ⟨fun x a _ _ => by rw [st2_nb a, st2_nb a], fun j hj => by rw [st2_nk (by omega), st2_nk (by omega)], fun _ _ _ => rfl⟩, ⟨by omega, by rw [st2_nk (by decide), st2_at], fun i hi => ⟨(hb i (by omega)).1, by rw [st2_na (by decide), st2_na (by decide)]; exact (hb i (by omega)).2⟩, hk⟩, ⟨by omega, st2_at, fun t ht => absurd ht (Nat.not_lt_zero t)⟩⟩
  rintro m x y I' J' R ⟨r, i, T, rfl, rfl, rfl, hr, hir, hTi, hrun, hF, hB, hA⟩ hR
  unfold f_X9_split_b21
  have done : r = cnt → wp (mBd (mPutI 7 8 (some 66) (-1)) (fun _ => mBd (mCk 7 (some 66) (f_X9_step (some 66))) (fun _ => mRt ()))) Q (K, I', J', A) := by
    intro he
    have hpT : ps b cnt T = cnt := by rw [← hrun, run_no (fun q => by omega), he]
    refine b_putI k66 (by decide) (b_ck k66 (wp_bd (t_step (b := b) (n := cnt) (T := T) (t := 0) hT ?_ ?_ hpT (st2_at.trans (by decide)) (by omega) (fun I2 J2 f1 f2 f3 hC => wp_rt (q I2 J2 T ?_ ?_ ?_ hC)))))
    · obtain ⟨h1, h2, h3, h4⟩ := hB
      exact ⟨h1, (st2_nk (by decide)).trans h2, fun i hi => ⟨(h3 i hi).1, (st2_na (by decide)).trans (h3 i hi).2⟩, h4⟩
    · obtain ⟨h1, h2, h3⟩ := hA
      exact ⟨h1, (st2_nk (by decide)).trans h2, fun s hs => ⟨(h3 s hs).1, (st2_na (by decide)).trans (h3 s hs).2.1, (h3 s hs).2.2.1, (st2_na (by decide)).trans (h3 s hs).2.2.2⟩⟩
    · intro x x1 x2 x3
      rw [f1 x x1, st2_nb x1]; exact hF.1 x x1 x2 x3
    · intro j hj
      rw [f2 j (by omega), st2_nk (by omega)]; exact hF.2.1 j hj
    · intro x x1 x2
      rw [f3 x x1]; exact hF.2.2 x x1 x2
  by_cases hi : i = 900
  · exact wp_ifp (ge_t (b := 900) (by omega)) (done (by omega))
  · refine wp_ifn (ge_f (b := 900) (by omega)) (b_getIv k66 hB.2.1 ?_)
    by_cases he : r = cnt
    · exact wp_ifp (ge_t (by omega)) (done he)
    · have hbr := hB.2.2.1 r (by omega)
      refine wp_ifn (ge_f (by omega)) (b_getA k66 a0 (b_eq (t_cellp k67 (by omega) (by omega)) ?_))
      rw [hbr.2]
      refine wp_ifq (not_congr (zn_inj (b := 32) (by omega) (by omega))) ?_
      by_cases hs : b r = 32
      · refine wp_ifn (fun q => q hs) ?_
        rw [zn_succ, zn_succ]
        exact hR (900 - (i + 1)) _ _ _ _ (by omega) ⟨r + 1, i + 1, T, rfl, rfl, rfl, by omega, by omega, by omega, (run_go (show r < cnt ∧ isSp (b r) = true from ⟨by omega, by unfold isSp; simp [hs]⟩)).symm.trans hrun, hF, hB, hA⟩
      · have hns : ¬ (r < cnt ∧ isSp (b r) = true) := fun q => hs (by have := q.2; unfold isSp at this; simpa using this)
        have hpr : ps b cnt T = r := by rw [← hrun, run_no hns]
        have hT9 : T < 900 := by omega
        have hlt : ps b cnt T < cnt := by omega
        have hN := tkN_rng (b := b) hlt
        have next : ∀ I2 J2, TF I' J' I2 J2 → TB I2 J2 kw b cnt → TA I2 J2 kw b cnt (T + 1) → wp (R (zn (tkN b cnt (ps b cnt T))) (zn i + 1)) Q (K, I2, J2, A) := by
          intro I2 J2 hF2 hB2 hA2
          rw [zn_succ]
          exact hR (900 - (i + 1)) _ _ _ _ (by omega) ⟨_, i + 1, T + 1, rfl, rfl, rfl, hN.2, by omega, by omega, (ps_s hlt).symm, hF.trans hF2, hB2, hA2⟩
        refine wp_ifp hs (b_eq (t_isL hbr.1) ?_)
        cases hL : isL (b r) with
        | true =>
          refine wp_ifn (by decide) (b_ck k66 ?_)
          rw [← hpr]
          exact wp_bd (t_splitWord hT hB hA hT9 hlt (by rw [hpr]; exact hL) next)
        | false =>
          refine wp_ifp (by decide) (b_eq (t_isD hbr.1) ?_)
          cases hD : isD (b r) with
          | true =>
            refine wp_ifn (by decide) (b_ck k66 ?_)
            rw [← hpr]
            exact wp_bd (t_splitWhole hT hB hA hT9 hlt (by rw [hpr]; exact hL) (by rw [hpr]; exact hD) next)
          | false =>
            have eN : tkN b cnt (ps b cnt T) = r + 1 := by unfold tkN; rw [hpr, hL, hD]; rfl
            have eV : tkV kw b cnt (ps b cnt T) = (zn (b r)).toInt64 := by unfold tkV; rw [hpr, hL, hD]; rfl
            have eK : tkK kw b cnt (ps b cnt T) = if isSg (b r) = true then 3 else 1 := by unfold tkK; rw [hpr, hL, hD]; rfl
            rw [eN, ← zn_succ] at next
            refine wp_ifp (by decide) ?_
            rw [chr_id _ hbr.1]
            refine b_eq (t_indexOf hS hbr.1) ?_
            have hsg := sgI_sg _ hbr.1
            cases hI : sgI (b r) with
            | some s =>
              rw [hI] at hsg
              have : s < 7 := by have := fd_lt _ _ hI; omega
              rw [← hsg] at eK
              refine wp_ifn (lt_f (b := 0) (by omega)) ?_
              unfold f_X9_split_j110
              rw [← hpr] at hbr next ⊢
              refine b_ck k66 (wp_bd (t_keepToken (kd := zn 3) hT hA.2.1 hT9 (next _ _ TF.push hB.push (hA.push hT9 hlt eK.symm ?_))))
              rw [eV, hpr]
            | none =>
              rw [hI] at hsg
              rw [← hsg] at eK
              refine wp_ifp (by decide) ?_
              unfold f_X9_split_j110
              rw [← hpr] at hbr next ⊢
              refine b_ck k66 (wp_bd (t_keepToken (kd := zn 1) hT hA.2.1 hT9 (next _ _ TF.push hB.push (hA.push hT9 hlt eK.symm ?_))))
              rw [eV, hpr]
end
