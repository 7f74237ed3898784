/-! ===== Strings, kept words, what a token is ===== -/
def chS (s k : Nat) : Int32 := (sBy.getD s []).getD k 0
def lnS (s : Nat) : Nat := sLn.getD s 0
def wdS (s : Nat) : Nat → Int64
  | 0 => 0
  | k + 1 => (32 : Int64) * wdS s k + ((chS s k - 97) + 1).toInt64
def kwC (i : Nat) : Int64 := wdS (3 + i) (lnS (3 + i))
theorem ch_ok : ∀ s, s < 16 → ∀ k, k < lnS s → ((chS s k &&& 255).toUInt32 % 65536).toInt32 = chS s k ∧ (chS s k).toUInt32.toUInt16.toUInt32.toInt32 = chS s k := by decide +kernel
theorem ln_ok : ∀ s, s < 16 → lnS s < 100 := by decide
theorem kwC_inj : ∀ i, i < 13 → ∀ j, j < 13 → kwC i = kwC j → i = j := by decide +kernel
theorem kpt_kw {i : Nat} (hi : i < 13) : kpt kwC (kwC i) = some i := by
  unfold kpt
  refine fd_some (by simp) 13 0 (by omega) (by omega) (fun j _ hj => ?_)
  have := kwC_inj j (by omega) i hi
  simp only [beq_eq_false_iff_ne]
  intro q
  have := this q
  omega
theorem fd_P {P : Nat → Bool} {x : Nat} : ∀ n k, fd P n k = some x → P x = true := by
  intro n
  induction n with
  | zero => intro k h; exact absurd h (by unfold fd; simp)
  | succ n ih =>
    intro k h
    unfold fd at h
    by_cases hp : P k = true
    · rw [if_pos hp] at h
      have : k = x := by simpa using h
      rw [← this]; exact hp
    · rw [if_neg hp] at h
      exact ih (k + 1) h
theorem kpt_is {v : Int64} {i : Nat} (h : kpt kwC v = some i) : v = kwC i := by
  have := fd_P _ _ h
  simp only [beq_iff_eq] at this
  exact this.symm
theorem kpt_no {v : Int64} (h : kpt kwC v = none) {i : Nat} (hi : i < 13) : ¬ v = kwC i := by
  intro q
  rw [q, kpt_kw hi] at h
  exact absurd h (by simp)
section
variable {β : Type} {kw : Nat → Int64} {K : List (Nat × Nat)} {I I' : Nat → Nat → Int32} {J J' : Nat → Nat → Int64} {A : Nat → Nat → Option Nat} {w : WD}
variable {b : Nat → Nat} {n T t : Nat}
theorem t_charAt {s k : Nat} (hS : SK K) (hs : s < 16) (hk : k < lnS s) : mCkS (some (3 + s)) (f_J0_charAt_5068e (some (3 + s)) (zn k)) (K, I, J, A) = some (chS s k, (K, I, J, A)) := by
  have k9 : kk K (3 + s) = (9, s) := (hS s hs).1
  have k10 : kk K (20 + s) = (10, s) := (hS s hs).2
  have hl := ln_ok s hs
  have hlt : k < 2147483648 := by omega
  have ck : ∀ {α : Type} {F : Mo α}, mCkS (some (3 + s)) F (K, I, J, A) = F (K, I, J, A) := by
    intro α F
    exact if_pos (show (kk K (3 + s)).1 = 9 ∧ 3 + s = 3 + (kk K (3 + s)).2 ∧ (kk K (3 + s)).2 < 16 by rw [k9]; exact ⟨rfl, rfl, hs⟩)
  have sv : mStrVal (some (3 + s)) (K, I, J, A) = some (some (20 + s), (K, I, J, A)) := by
    refine (if_pos (show (kk K (3 + s)).1 = 9 ∧ 3 + s = 3 + (kk K (3 + s)).2 ∧ (kk K (3 + s)).2 < 16 by rw [k9]; exact ⟨rfl, rfl, hs⟩)).trans ?_
    show some (some (20 + (kk K (3 + s)).2), _) = _
    rw [k9]
  have sc : mStrCod (some (3 + s)) (K, I, J, A) = some (0, (K, I, J, A)) := if_pos (show (kk K (3 + s)).1 = 9 ∧ 3 + s = 3 + (kk K (3 + s)).2 ∧ (kk K (3 + s)).2 < 16 by rw [k9]; exact ⟨rfl, rfl, hs⟩)
  have ln : mLenS (some (20 + s)) (K, I, J, A) = some (zn (lnS s), (K, I, J, A)) := by
    refine (if_pos (show (kk K (20 + s)).1 = 10 ∧ 20 + s = 20 + (kk K (20 + s)).2 ∧ (kk K (20 + s)).2 < 16 by rw [k10]; exact ⟨rfl, rfl, hs⟩)).trans ?_
    show some (Int32.ofNat (sLn.getD (kk K (20 + s)).2 0), _) = _
    rw [k10]; rfl
  have ld : mLdS (some (20 + s)) (zn k) (K, I, J, A) = some (chS s k, (K, I, J, A)) := by
    refine (if_pos (show ((kk K (20 + s)).1 = 10 ∧ 20 + s = 20 + (kk K (20 + s)).2 ∧ (kk K (20 + s)).2 < 16) ∧ ¬ (zn k < 0 ∨ sLn.getD (kk K (20 + s)).2 0 ≤ (zn k).toNatClampNeg) by rw [k10]; exact ⟨⟨rfl, rfl, hs⟩, idx_ok (n := lnS s) hk hlt⟩)).trans ?_
    show some ((sBy.getD (kk K (20 + s)).2 []).getD (zn k).toNatClampNeg 0, _) = _
    rw [k10, zn_clamp hlt]; rfl
  have bck : ∀ {α β : Type} {F : Mo α} {G : α → Mo β} {Q : β → Hp → Prop}, wp (mBd F G) Q (K, I, J, A) → wp (mBd (mCkS (some (3 + s)) F) G) Q (K, I, J, A) := by
    intro α β F G Q h
    have e : mBd (mCkS (some (3 + s)) F) G (K, I, J, A) = mBd F G (K, I, J, A) := by unfold mBd; rw [ck]
    unfold wp
    rw [e]
    exact h
  obtain ⟨c1, c2⟩ := ch_ok s hs k hk
  rw [ck]
  apply wp_get
  unfold f_J0_charAt_5068e
  refine bck ?_
  unfold f_J0_isLatin1_aae02
  refine b_ite (wp_ifn (by decide) (b_assoc (b_eq sc (b_ite (wp_ifn (by decide) (b_rt (wp_ifn (by decide) (b_eq sv ?_))))))))
  unfold f_J1_charAt_3b067
  refine b_assoc (b_eq ln ?_)
  unfold f_J0_checkIndex_df160 f_J3_checkIndex_8e157
  refine b_assoc (b_assoc (b_ite (wp_ifn (zn_nneg hlt) (b_ite (wp_ifp (lt_t (by omega)) (b_rt (b_rt (b_assoc (b_eq ld ?_)))))))))
  rw [c1]
  exact b_rq c2 (b_rt (wp_rq c2 (wp_rt ⟨rfl, rfl⟩)))
theorem t_lenS {s : Nat} (hS : SK K) (hs : s < 16) : mCkS (some (3 + s)) (f_J0_length_8abf5 (some (3 + s))) (K, I, J, A) = some (zn (lnS s), (K, I, J, A)) := by
  have k9 : kk K (3 + s) = (9, s) := (hS s hs).1
  have k10 : kk K (20 + s) = (10, s) := (hS s hs).2
  have hl := ln_ok s hs
  have ck : ∀ {α : Type} {F : Mo α}, mCkS (some (3 + s)) F (K, I, J, A) = F (K, I, J, A) := by
    intro α F
    exact if_pos (show (kk K (3 + s)).1 = 9 ∧ 3 + s = 3 + (kk K (3 + s)).2 ∧ (kk K (3 + s)).2 < 16 by rw [k9]; exact ⟨rfl, rfl, hs⟩)
  have sv : mStrVal (some (3 + s)) (K, I, J, A) = some (some (20 + s), (K, I, J, A)) := by
    refine (if_pos (show (kk K (3 + s)).1 = 9 ∧ 3 + s = 3 + (kk K (3 + s)).2 ∧ (kk K (3 + s)).2 < 16 by rw [k9]; exact ⟨rfl, rfl, hs⟩)).trans ?_
    show some (some (20 + (kk K (3 + s)).2), _) = _
    rw [k9]
  have sc : mStrCod (some (3 + s)) (K, I, J, A) = some (0, (K, I, J, A)) := if_pos (show (kk K (3 + s)).1 = 9 ∧ 3 + s = 3 + (kk K (3 + s)).2 ∧ (kk K (3 + s)).2 < 16 by rw [k9]; exact ⟨rfl, rfl, hs⟩)
  have ln : mLenS (some (20 + s)) (K, I, J, A) = some (zn (lnS s), (K, I, J, A)) := by
    refine (if_pos (show (kk K (20 + s)).1 = 10 ∧ 20 + s = 20 + (kk K (20 + s)).2 ∧ (kk K (20 + s)).2 < 16 by rw [k10]; exact ⟨rfl, rfl, hs⟩)).trans ?_
    show some (Int32.ofNat (sLn.getD (kk K (20 + s)).2 0), _) = _
    rw [k10]; rfl
  have bck : ∀ {α β : Type} {F : Mo α} {G : α → Mo β} {Q : β → Hp → Prop}, wp (mBd F G) Q (K, I, J, A) → wp (mBd (mCkS (some (3 + s)) F) G) Q (K, I, J, A) := by
    intro α β F G Q h
    have e : mBd (mCkS (some (3 + s)) F) G (K, I, J, A) = mBd F G (K, I, J, A) := by unfold mBd; rw [ck]
    unfold wp
    rw [e]
    exact h
  rw [ck]
  apply wp_get
  unfold f_J0_length_8abf5
  refine b_eq sv (b_eq ln (bck ?_))
  unfold f_J0_coder_7d493
  refine b_ite (wp_ifn (by decide) (b_assoc (b_eq sc (b_rq (by decide) (b_rt (wp_rt ⟨?_, rfl⟩))))))
  show zn (lnS s) >>> 0 = zn (lnS s)
  have : ∀ k, k < 100 → zn k >>> 0 = zn k := by decide +kernel
  exact this _ hl
theorem t_wordOf {s : Nat} (hS : SK K) (hs : s < 16) : f_X13_wordOf (some (3 + s)) (K, I, J, A) = some (wdS s (lnS s), (K, I, J, A)) := by
  have hl := ln_ok s hs
  apply wp_get
  unfold f_X13_wordOf f_X13_wordOf_l4
  refine pf2 (N := lnS s) (fun k x => x = wdS s k) ?_ ?_ (k := 0) (by omega) (by unfold fuel; omega) rfl
  · rintro k x R hk rfl hR
    unfold f_X13_wordOf_b4
    refine b_eq (t_lenS hS hs) (wp_ifn (ge_f (by omega)) (b_eq (t_charAt hS hs hk) (b_nm (hR _ rfl))))
  · rintro x R rfl
    unfold f_X13_wordOf_b4
    exact b_eq (t_lenS hS hs) (wp_ifp (ge_t (by omega)) (wp_rt ⟨rfl, rfl⟩))
/-- token t is the kept word i; the sign c; a name; a whole -/
def isW (b : Nat → Nat) (n t i : Nat) : Bool := kd' kwC b n t == 4 && vl kwC b n t == (zn i).toInt64
def isG (b : Nat → Nat) (n t c : Nat) : Bool := kd' kwC b n t == 3 && vl kwC b n t == (zn c).toInt64
theorem t_atWord {i : Nat} (hT : TS K A) (hC : CT I J kwC b n T t) : f_X9_atWord (some 66) (zn i) (K, I, J, A) = some (b01 (isW b n t i), (K, I, J, A)) := by
  apply wp_get
  obtain ⟨_, _, _, _, h9, h10⟩ := hC
  have hk : kd' kwC b n t < 6 := by unfold kd' tkK; repeat (first | split | decide)
  unfold f_X9_atWord isW
  refine b_getIv hT.1 h9 (wp_ifq (not_congr (zn_inj (b := 4) (by omega) (by omega))) ?_)
  by_cases h : kd' kwC b n t = 4
  · refine wp_ifn (fun q => q h) (b_getJv hT.1 h10 ?_)
    by_cases h2 : vl kwC b n t = (zn i).toInt64
    · exact wp_ifn (fun q => q h2) (wp_rt ⟨by rw [h, h2]; simp; rfl, rfl⟩)
    · exact wp_ifp h2 (wp_rt ⟨by rw [h, beq_eq_false_iff_ne.mpr h2]; rfl, rfl⟩)
  · exact wp_ifp h (wp_rt ⟨by rw [beq_eq_false_iff_ne.mpr h]; rfl, rfl⟩)
theorem t_atSign {c : Nat} (hT : TS K A) (hC : CT I J kwC b n T t) : f_X9_atSign (some 66) (zn c) (K, I, J, A) = some (b01 (isG b n t c), (K, I, J, A)) := by
  apply wp_get
  obtain ⟨_, _, _, _, h9, h10⟩ := hC
  have hk : kd' kwC b n t < 6 := by unfold kd' tkK; repeat (first | split | decide)
  unfold f_X9_atSign isG
  refine b_getIv hT.1 h9 (wp_ifq (not_congr (zn_inj (b := 3) (by omega) (by omega))) ?_)
  by_cases h : kd' kwC b n t = 3
  · refine wp_ifn (fun q => q h) (b_getJv hT.1 h10 ?_)
    by_cases h2 : vl kwC b n t = (zn c).toInt64
    · exact wp_ifn (fun q => q h2) (wp_rt ⟨by rw [h, h2]; simp; rfl, rfl⟩)
    · exact wp_ifp h2 (wp_rt ⟨by rw [h, beq_eq_false_iff_ne.mpr h2]; rfl, rfl⟩)
  · exact wp_ifp h (wp_rt ⟨by rw [beq_eq_false_iff_ne.mpr h]; rfl, rfl⟩)
theorem zn64_inj {a c : Nat} (ha : a < 2147483648) (hc : c < 2147483648) : (zn a).toInt64 = (zn c).toInt64 ↔ a = c := by
  constructor
  · intro q
    have := congrArg Int64.toInt32 q
    rw [Int32.toInt32_toInt64, Int32.toInt32_toInt64] at this
    exact (zn_inj ha hc).mp this
  · intro q; rw [q]
theorem t_isWord {i : Nat} (hM : MS K A 224) (hS : SK K) (hi : i < 13) (hR : RT I J kwC b n t) : f_X13_isWord (some 224) (some (6 + i)) (K, I, J, A) = some (b01 (isW b n t i), (K, I, J, A)) := by
  apply wp_get
  have hw := t_wordOf (K := K) (I := I) (J := J) (A := A) (s := 3 + i) hS (by omega)
  rw [show 3 + (3 + i) = 6 + i by omega] at hw
  unfold f_X13_isWord isW
  obtain ⟨_, h, _⟩ := hR
  have no : I 224 11 ≠ 2 → (kd' kwC b n t == 4) = false → wp (mBd (mGetI 11 11 (some 224)) fun r1 => if ¬ r1 = 2 then mRt (0 : Int32) else mBd (mGetJ 11 17 (some 224)) fun r2 => mBd (f_X13_wordOf (some (6 + i))) fun r3 => if ¬ r2 = r3 then mRt 0 else mRt 1) (fun r h' => r = b01 (kd' kwC b n t == 4 && vl kwC b n t == (zn i).toInt64) ∧ h' = (K, I, J, A)) (K, I, J, A) := by
    intro h1 h2
    exact b_getI hM.1 (wp_ifp h1 (wp_rt ⟨by rw [h2]; rfl, rfl⟩))
  rcases h with ⟨h1, h2⟩ | ⟨h1, h2⟩ | ⟨h1, h2, _⟩ | ⟨h1, h2, _⟩ | ⟨h1, h2, j, h3, h4⟩ | ⟨h1, h2, h3, h4⟩
  · exact no (by rw [h2]; decide) (by rw [h1]; rfl)
  · exact no (by rw [h2]; decide) (by rw [h1]; rfl)
  · exact no (by rw [h2]; decide) (by rw [h1]; rfl)
  · exact no (by rw [h2]; decide) (by rw [h1]; rfl)
  · have hj := kpt_lt h3
    refine b_getIv hM.1 h2 (wp_ifn (by decide) (b_getJv hM.1 (kpt_is h3) (b_eq hw ?_)))
    by_cases hij : j = i
    · subst hij
      refine wp_ifn (fun q => q rfl) (wp_rt ⟨?_, rfl⟩)
      rw [h1, h4]; simp; rfl
    · refine wp_ifp (fun q => hij (kwC_inj j hj i hi q)) (wp_rt ⟨?_, rfl⟩)
      rw [h1, h4, show ((zn j).toInt64 == (zn i).toInt64) = false from by
        rw [beq_eq_false_iff_ne]
        intro q
        exact hij ((zn64_inj (by omega) (by omega)).mp q)]
      rfl
  · refine b_getIv hM.1 h2 (wp_ifn (by decide) (b_getJv hM.1 h3 (b_eq hw (wp_ifp (kpt_no h4 hi) (wp_rt ⟨?_, rfl⟩)))))
    rw [h1]; rfl
theorem t_isSign {c : Nat} (hM : MS K A 224) (hR : RT I J kwC b n t) : f_X13_isSign (some 224) (zn c) (K, I, J, A) = some (b01 (isG b n t c), (K, I, J, A)) := by
  apply wp_get
  unfold f_X13_isSign isG
  obtain ⟨_, h, _⟩ := hR
  have no : I 224 11 ≠ 4 → (kd' kwC b n t == 3) = false → wp (mBd (mGetI 11 11 (some 224)) fun r1 => if ¬ r1 = 4 then mRt (0 : Int32) else mBd (mGetI 11 13 (some 224)) fun r2 => if ¬ r2 = zn c then mRt 0 else mRt 1) (fun r h' => r = b01 (kd' kwC b n t == 3 && vl kwC b n t == (zn c).toInt64) ∧ h' = (K, I, J, A)) (K, I, J, A) := by
    intro h1 h2
    exact b_getI hM.1 (wp_ifp h1 (wp_rt ⟨by rw [h2]; rfl, rfl⟩))
  rcases h with ⟨h1, h2⟩ | ⟨h1, h2⟩ | ⟨h1, h2, _⟩ | ⟨h1, h2, h3⟩ | ⟨h1, h2, _⟩ | ⟨h1, h2, _⟩
  · exact no (by rw [h2]; decide) (by rw [h1]; rfl)
  · exact no (by rw [h2]; decide) (by rw [h1]; rfl)
  · exact no (by rw [h2]; decide) (by rw [h1]; rfl)
  · refine b_getIv hM.1 h2 (wp_ifn (by decide) (b_getI hM.1 ?_))
    rw [h1, ← h3]
    by_cases he : I 224 13 = zn c
    · refine wp_ifn (fun q => q he) (wp_rt ⟨?_, rfl⟩)
      rw [he]; simp; rfl
    · refine wp_ifp he (wp_rt ⟨?_, rfl⟩)
      rw [show ((I 224 13).toInt64 == (zn c).toInt64) = false from by
        rw [beq_eq_false_iff_ne]
        intro q
        have := congrArg Int64.toInt32 q
        rw [Int32.toInt32_toInt64, Int32.toInt32_toInt64] at this
        exact he this]
      rfl
  · exact no (by rw [h2]; decide) (by rw [h1]; rfl)
  · exact no (by rw [h2]; decide) (by rw [h1]; rfl)
end
