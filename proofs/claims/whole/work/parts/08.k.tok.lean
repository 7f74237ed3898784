/-! ===== tokens ===== -/
def isL (x : Nat) : Bool := decide (97 ≤ x) && decide (x ≤ 122)
def isD (x : Nat) : Bool := decide (48 ≤ x) && decide (x ≤ 57)
def isSp (x : Nat) : Bool := x == 32
def isSg (x : Nat) : Bool := x == 59 || x == 44 || x == 43 || x == 45 || x == 42 || x == 40 || x == 41
def runE (P : Nat → Bool) (b : Nat → Nat) (n : Nat) : Nat → Nat → Nat
  | 0, j => j
  | f + 1, j => if j < n ∧ P (b j) = true then runE P b n f (j + 1) else j
def run (P : Nat → Bool) (b : Nat → Nat) (n j : Nat) : Nat := runE P b n (n - j) j
theorem run_no {P : Nat → Bool} {b : Nat → Nat} {n j : Nat} (h : ¬ (j < n ∧ P (b j) = true)) : run P b n j = j := by
  unfold run
  cases h1 : n - j with
  | zero => rfl
  | succ f => exact if_neg h
theorem run_go {P : Nat → Bool} {b : Nat → Nat} {n j : Nat} (h : j < n ∧ P (b j) = true) : run P b n j = run P b n (j + 1) := by
  unfold run
  obtain ⟨f, hf⟩ : ∃ f, n - j = f + 1 := ⟨n - j - 1, by omega⟩
  rw [hf, show n - (j + 1) = f by omega]
  exact if_pos h
theorem run_rng {P : Nat → Bool} {b : Nat → Nat} {n : Nat} : ∀ d j, j ≤ n → n - j = d → j ≤ run P b n j ∧ run P b n j ≤ n ∧ ¬ (run P b n j < n ∧ P (b (run P b n j)) = true) := by
  intro d
  induction d with
  | zero =>
    intro j h1 h2
    have h3 : ¬ (j < n ∧ P (b j) = true) := fun q => by omega
    rw [run_no h3]
    exact ⟨by omega, h1, h3⟩
  | succ d ih =>
    intro j h1 h2
    by_cases h3 : j < n ∧ P (b j) = true
    · rw [run_go h3]
      have := ih (j + 1) (by omega) (by omega)
      exact ⟨by omega, this.2⟩
    · rw [run_no h3]
      exact ⟨by omega, h1, h3⟩
theorem run_r {P : Nat → Bool} {b : Nat → Nat} {n j : Nat} (h : j ≤ n) : j ≤ run P b n j ∧ run P b n j ≤ n := ⟨(run_rng _ j h rfl).1, (run_rng _ j h rfl).2.1⟩
theorem run_r1 {P : Nat → Bool} {b : Nat → Nat} {n j : Nat} (h : j < n ∧ P (b j) = true) : j + 1 ≤ run P b n j ∧ run P b n j ≤ n := by
  rw [run_go h]
  exact run_r (by omega)
def wvF (b : Nat → Nat) (j : Nat) : Nat → Int64
  | 0 => 0
  | k + 1 => wvF b j k * 32 + ((zn (b (j + k)) - 97) + 1).toInt64
def nvF (b : Nat → Nat) (j : Nat) : Nat → Int32
  | 0 => 0
  | k + 1 => nvF b j k * 10 + (zn (b (j + k)) - 48)
def kpt (kw : Nat → Int64) (v : Int64) : Option Nat := fd (fun i => kw i == v) 13 0
def tkK (kw : Nat → Int64) (b : Nat → Nat) (n j : Nat) : Nat :=
  if isL (b j) = true then (if run isL b n j - j ≤ 8 then (match kpt kw (wvF b j (run isL b n j - j)) with | some _ => 4 | none => 5) else 1)
  else if isD (b j) = true then (if run isD b n j - j ≤ 3 then 2 else 1) else if isSg (b j) = true then 3 else 1
def tkV (kw : Nat → Int64) (b : Nat → Nat) (n j : Nat) : Int64 :=
  if isL (b j) = true then (if run isL b n j - j ≤ 8 then (match kpt kw (wvF b j (run isL b n j - j)) with | some i => (zn i).toInt64 | none => wvF b j (run isL b n j - j)) else 0)
  else if isD (b j) = true then (nvF b j (run isD b n j - j)).toInt64 else (zn (b j)).toInt64
def tkN (b : Nat → Nat) (n j : Nat) : Nat := if isL (b j) = true then run isL b n j else if isD (b j) = true then run isD b n j else j + 1
def ps (b : Nat → Nat) (n : Nat) : Nat → Nat
  | 0 => run isSp b n 0
  | t + 1 => if ps b n t < n then run isSp b n (tkN b n (ps b n t)) else ps b n t
theorem ps_s {b : Nat → Nat} {n t : Nat} (h : ps b n t < n) : ps b n (t + 1) = run isSp b n (tkN b n (ps b n t)) := if_pos h
theorem ps_e {b : Nat → Nat} {n t : Nat} (h : ¬ ps b n t < n) : ps b n (t + 1) = ps b n t := if_neg h
theorem tkN_rng {b : Nat → Nat} {n j : Nat} (h : j < n) : j + 1 ≤ tkN b n j ∧ tkN b n j ≤ n := by
  unfold tkN
  by_cases h1 : isL (b j) = true
  · rw [if_pos h1]; exact run_r1 ⟨h, h1⟩
  · rw [if_neg h1]
    by_cases h2 : isD (b j) = true
    · rw [if_pos h2]; exact run_r1 ⟨h, h2⟩
    · rw [if_neg h2]; omega
theorem ps_le {b : Nat → Nat} {n : Nat} : ∀ t, ps b n t ≤ n := by
  intro t
  induction t with
  | zero => exact (run_r (by omega)).2
  | succ t ih =>
    by_cases h : ps b n t < n
    · rw [ps_s h]; exact (run_r (tkN_rng h).2).2
    · rw [ps_e h]; exact ih
theorem ps_ge {b : Nat → Nat} {n T : Nat} (h : ps b n T = n) : ∀ d, ps b n (T + d) = n := by
  intro d
  induction d with
  | zero => exact h
  | succ d ih => rw [show T + (d + 1) = T + d + 1 by omega, ps_e (by omega)]; exact ih
theorem ps_nsp {b : Nat → Nat} {n t : Nat} (h : ps b n t < n) : isSp (b (ps b n t)) = false := by
  cases t with
  | zero =>
    have := (run_rng (P := isSp) (b := b) (n - 0) 0 (by omega) rfl).2.2
    rw [← Bool.not_eq_true]
    exact fun q => this ⟨h, q⟩
  | succ t =>
    by_cases h1 : ps b n t < n
    · rw [ps_s h1] at h ⊢
      have := (run_rng (P := isSp) (b := b) (n := n) _ (tkN b n (ps b n t)) (tkN_rng h1).2 rfl).2.2
      rw [← Bool.not_eq_true]
      exact fun q => this ⟨h, q⟩
    · rw [ps_e h1] at h
      exact absurd h h1
def kd' (kw : Nat → Int64) (b : Nat → Nat) (n t : Nat) : Nat := if ps b n t < n then tkK kw b n (ps b n t) else 0
def vl (kw : Nat → Int64) (b : Nat → Nat) (n t : Nat) : Int64 := if ps b n t < n then tkV kw b n (ps b n t) else 0
/-- the tape's bytes in the class -/
def TB (I : Nat → Nat → Int32) (J : Nat → Nat → Int64) (kw : Nat → Int64) (b : Nat → Nat) (n : Nat) : Prop := n ≤ 900 ∧ I 66 7 = zn n ∧ (∀ i, i < n → (b i < 256 ∧ I 67 i = zn (b i))) ∧ ∀ i, i < 13 → J 68 i = kw i
/-- the class's tokens so far -/
def TA (I : Nat → Nat → Int32) (J : Nat → Nat → Int64) (kw : Nat → Int64) (b : Nat → Nat) (n T : Nat) : Prop := T ≤ 900 ∧ I 66 6 = zn T ∧ ∀ t, t < T → (ps b n t < n ∧ I 69 t = zn (tkK kw b n (ps b n t)) ∧ J 70 t = tkV kw b n (ps b n t) ∧ I 71 t = zn (ps b n t))
/-- the class's tape at token t -/
def CT (I : Nat → Nat → Int32) (J : Nat → Nat → Int64) (kw : Nat → Int64) (b : Nat → Nat) (n T t : Nat) : Prop := TB I J kw b n ∧ TA I J kw b n T ∧ ps b n T = n ∧ I 66 8 = zn t ∧ I 66 9 = zn (kd' kw b n t) ∧ J 66 10 = vl kw b n t
/-- Strings -/
def SK (K : List (Nat × Nat)) : Prop := ∀ i, i < 16 → kk K (3 + i) = (9, i) ∧ kk K (20 + i) = (10, i)
section
variable {β : Type} {kw : Nat → Int64} {K : List (Nat × Nat)} {I I' : Nat → Nat → Int32} {J J' : Nat → Nat → Int64} {A : Nat → Nat → Option Nat} {w : WD}
variable {b : Nat → Nat} {n T t : Nat}
theorem btw {lo hi x : Nat} {h : Hp} (hl : lo < 1000) (hh : hi < 1000) (hx : x < 1000) : (if zn x < zn lo then mRt 0 else (if zn x > zn hi then mRt 0 else mRt 1) : Mo Int32) h = some (b01 (decide (lo ≤ x) && decide (x ≤ hi)), h) := by
  apply wp_get'
  by_cases h1 : x < lo
  · refine wp_ifp (lt_t (by omega)) (wp_rt ⟨?_, rfl⟩)
    rw [show decide (lo ≤ x) = false from by simp; omega]; rfl
  · refine wp_ifn (lt_f (by omega)) ?_
    rw [show decide (lo ≤ x) = true from by simp; omega]
    by_cases h2 : hi < x
    · refine wp_ifp (gt_t (by omega)) (wp_rt ⟨?_, rfl⟩)
      rw [show decide (x ≤ hi) = false from by simp; omega]; rfl
    · refine wp_ifn (gt_f (by omega)) (wp_rt ⟨?_, rfl⟩)
      rw [show decide (x ≤ hi) = true from by simp; omega]; rfl
theorem t_isL {x : Nat} {h : Hp} (hx : x < 256) : f_X9_isLetter (zn x) h = some (b01 (isL x), h) := btw (lo := 97) (hi := 122) (by omega) (by omega) (by omega)
theorem t_isD {x : Nat} {h : Hp} (hx : x < 256) : f_X9_isDigit (zn x) h = some (b01 (isD x), h) := btw (lo := 48) (hi := 57) (by omega) (by omega) (by omega)
theorem t_keepToken {Q : Unit → Hp → Prop} {kd : Int32} {v : Int64} {p : Nat} (hT : TS K A) (h6 : I 66 6 = zn T) (hT9 : T < 900)
    (q : Q () (K, st2 (st2 (st2 I 69 T kd) 71 T (zn p)) 66 6 (zn (T + 1)), st2 J 70 T v, A)) : wp (f_X9_keepToken (some 66) kd v (zn p)) Q (K, I, J, A) := by
  obtain ⟨k66, ⟨a0, a1, a2, a3, a4⟩, k67, k68, k69, k70, k71⟩ := hT
  unfold f_X9_keepToken
  refine b_getA k66 a2 (b_getIv k66 h6 (b_eq (t_mark k69 (by decide) (by omega) (by omega)) (b_getA k66 a3 (b_getIv k66 ((st2_na (by decide)).trans h6) (b_eq (t_put k70 (by decide) (by omega) (by omega)) (b_getA k66 a4 (b_getIv k66 ((st2_na (by decide)).trans h6) (b_eq (t_mark k71 (by decide) (by omega) (by omega)) (b_getIv k66 ((st2_na (by decide)).trans ((st2_na (by decide)).trans h6)) (b_putI k66 (by decide) (wp_rt ?_)))))))))))
  rw [zn_succ]
  exact q
theorem t_keptNumber {v : Int64} (hT : TS K A) (hk : ∀ i, i < 13 → J 68 i = kw i) : f_X9_keptNumber (some 66) v (K, I, J, A) = some ((match kpt kw v with | some i => zn i | none => -1), (K, I, J, A)) := by
  apply wp_get
  obtain ⟨k66, ⟨a0, a1, a2, a3, a4⟩, k67, k68, k69, k70, k71⟩ := hT
  unfold f_X9_keptNumber f_X9_keptNumber_l2
  refine pf1 (N := 13) (fun k => ∀ i, 0 ≤ i → i < k → (kw i == v) = false) ?_ ?_ (k := 0) (by omega) (by unfold fuel; omega) (fun i _ hi => by omega)
  · intro k R hk' hno hR
    unfold f_X9_keptNumber_b2
    refine b_getA k66 a1 (b_len k68 (by decide) (wp_ifn (ge_f (by omega)) (b_getA k66 a1 (b_ldJ k68 (by omega) (by omega) ?_))))
    rw [hk k hk']
    by_cases h1 : kw k = v
    · refine wp_ifn (fun q => q h1) (wp_rt ⟨?_, rfl⟩)
      unfold kpt
      rw [fd_some (y := k) (by simp [h1]) 13 0 (by omega) (by omega) (fun i h1 h2 => hno i h1 h2)]
    · refine wp_ifp h1 (hR (fun i _ hi => ?_))
      by_cases h2 : i = k
      · subst h2; simp [h1]
      · exact hno i (by omega) (by omega)
  · intro R hno
    unfold f_X9_keptNumber_b2
    refine b_getA k66 a1 (b_len k68 (by decide) (wp_ifp (ge_t (by omega)) (wp_rt ⟨?_, rfl⟩)))
    unfold kpt
    rw [fd_none 13 0 (fun i h1 h2 => hno i h1 (by omega))]
theorem kpt_lt {v : Int64} {i : Nat} (h : kpt kw v = some i) : i < 13 := by
  have := fd_lt _ _ h
  omega
/-- one token more -/
theorem TA.push {k : Nat} {v : Int64} (h : TA I J kw b n T) (hT9 : T < 900) (hp : ps b n T < n) (hk : k = tkK kw b n (ps b n T)) (hv : v = tkV kw b n (ps b n T)) : TA (st2 (st2 (st2 I 69 T (zn k)) 71 T (zn (ps b n T))) 66 6 (zn (T + 1))) (st2 J 70 T v) kw b n (T + 1) := by
  obtain ⟨h1, h2, h3⟩ := h
  refine ⟨by omega, st2_at, fun t ht => ?_⟩
  by_cases he : t = T
  · subst he
    refine ⟨hp, ?_, ?_, ?_⟩
    · rw [st2_na (by decide), st2_na (by decide), st2_at, hk]
    · rw [st2_at, hv]
    · rw [st2_na (by decide), st2_at]
  · obtain ⟨x1, x2, x3, x4⟩ := h3 t (by omega)
    refine ⟨x1, ?_, ?_, ?_⟩
    · rw [st2_na (by decide), st2_na (by decide), st2_nk he]; exact x2
    · rw [st2_nk he]; exact x3
    · rw [st2_na (by decide), st2_nk he, st2_na (by decide)]; exact x4
theorem TB.push {k : Nat} {v : Int64} {p : Nat} (h : TB I J kw b n) : TB (st2 (st2 (st2 I 69 T (zn k)) 71 T (zn p)) 66 6 (zn (T + 1))) (st2 J 70 T v) kw b n := by
  obtain ⟨h1, h2, h3, h4⟩ := h
  refine ⟨h1, ?_, fun i hi => ⟨(h3 i hi).1, ?_⟩, fun i hi => ?_⟩
  · rw [st2_nk (by decide), st2_na (by decide), st2_na (by decide)]; exact h2
  · rw [st2_na (by decide), st2_na (by decide), st2_na (by decide)]; exact (h3 i hi).2
  · rw [st2_na (by decide)]; exact h4 i hi
/-- what splitting may change -/
def TF (I : Nat → Nat → Int32) (J : Nat → Nat → Int64) (I' : Nat → Nat → Int32) (J' : Nat → Nat → Int64) : Prop := (∀ x, x ≠ 66 → x ≠ 69 → x ≠ 71 → I' x = I x) ∧ (∀ j, j < 6 → I' 66 j = I 66 j) ∧ ∀ x, x ≠ 66 → x ≠ 70 → J' x = J x
theorem TF.rfl' : TF I J I J := ⟨fun _ _ _ _ => rfl, fun _ _ => rfl, fun _ _ _ => rfl⟩
theorem TF.trans {I'' : Nat → Nat → Int32} {J'' : Nat → Nat → Int64} (h : TF I J I' J') (g : TF I' J' I'' J'') : TF I J I'' J'' := ⟨fun x a b c => (g.1 x a b c).trans (h.1 x a b c), fun j hj => (g.2.1 j hj).trans (h.2.1 j hj), fun x a b => (g.2.2 x a b).trans (h.2.2 x a b)⟩
theorem TF.push {k : Int32} {v : Int64} {p : Nat} : TF I J (st2 (st2 (st2 I 69 T k) 71 T (zn p)) 66 6 (zn (T + 1))) (st2 J 70 T v) := by
  refine ⟨fun x a b c => ?_, fun j hj => ?_, fun x a b => st2_nb b⟩
  · rw [st2_nb a, st2_nb c, st2_nb b]
  · rw [st2_nk (by omega), st2_na (by decide), st2_na (by decide)]
theorem t_splitWord {Q : Int32 → Hp → Prop} (hT : TS K A) (hB : TB I J kw b n) (hA : TA I J kw b n T) (hT9 : T < 900) (hp : ps b n T < n) (hL : isL (b (ps b n T)) = true)
    (q : ∀ I' J', TF I J I' J' → TB I' J' kw b n → TA I' J' kw b n (T + 1) → Q (zn (tkN b n (ps b n T))) (K, I', J', A)) : wp (f_X9_splitWord (some 66) (zn (ps b n T))) Q (K, I, J, A) := by
  have hT' := hT
  obtain ⟨k66, ⟨a0, a1, a2, a3, a4⟩, k67, k68, k69, k70, k71⟩ := hT'
  have hn := hB.1
  have fin : ∀ k, run isL b n (ps b n T) = ps b n T + k → ps b n T + k ≤ n → wp (f_X9_splitWord_j45 (some 66) (zn (ps b n T)) (zn (ps b n T + k)) (wvF b (ps b n T) k)) Q (K, I, J, A) := by
    intro k hk hkn
    have hd : run isL b n (ps b n T) - ps b n T = k := by omega
    have eK : tkK kw b n (ps b n T) = if k ≤ 8 then (match kpt kw (wvF b (ps b n T) k) with | some _ => 4 | none => 5) else 1 := by unfold tkK; rw [if_pos hL, hd]
    have eV : tkV kw b n (ps b n T) = if k ≤ 8 then (match kpt kw (wvF b (ps b n T) k) with | some i => (zn i).toInt64 | none => wvF b (ps b n T) k) else 0 := by unfold tkV; rw [if_pos hL, hd]
    have eN : tkN b n (ps b n T) = ps b n T + k := by unfold tkN; rw [if_pos hL, hk]
    rw [eN] at q
    unfold f_X9_splitWord_j45
    refine b_ck k66 (b_eq (t_keptNumber hT hB.2.2.2) ?_)
    rw [zn_sub (by omega), show ps b n T + k - ps b n T = k by omega]
    by_cases h8 : k ≤ 8
    · rw [if_pos h8] at eK eV
      refine wp_ifp (le_t (b := 8) (by omega)) ?_
      cases hkp : kpt kw (wvF b (ps b n T) k) with
      | none =>
        rw [hkp] at eK eV
        exact wp_ifp (by decide) (b_ck k66 (wp_bd (t_keepToken (kd := zn 5) hT hA.2.1 hT9 (wp_rt (q _ _ TF.push hB.push (hA.push hT9 hp eK.symm eV.symm))))))
      | some i =>
        rw [hkp] at eK eV
        have := kpt_lt hkp
        exact wp_ifn (lt_f (b := 0) (by omega)) (b_ck k66 (wp_bd (t_keepToken (kd := zn 4) hT hA.2.1 hT9 (wp_rt (q _ _ TF.push hB.push (hA.push hT9 hp eK.symm eV.symm))))))
    · rw [if_neg h8] at eK eV
      exact wp_ifn (le_f (b := 8) (by omega)) (b_ck k66 (wp_bd (t_keepToken (kd := zn 1) hT hA.2.1 hT9 (wp_rt (q _ _ TF.push hB.push (hA.push hT9 hp eK.symm eV.symm))))))
  unfold f_X9_splitWord f_X9_splitWord_l4
  refine pw2 (fun m x y => ∃ k, x = zn (ps b n T + k) ∧ y = wvF b (ps b n T) k ∧ m = n - (ps b n T + k) ∧ ps b n T + k ≤ n ∧ run isL b n (ps b n T) = run isL b n (ps b n T + k)) ?_ fuel (n - ps b n T) _ _ (by unfold fuel; omega) ⟨0, rfl, rfl, rfl, by omega, rfl⟩
  rintro m x y R ⟨k, rfl, rfl, rfl, hkn, hrun⟩ hR
  unfold f_X9_splitWord_b4
  refine b_getIv k66 hB.2.1 ?_
  by_cases he : ps b n T + k = n
  · refine wp_ifp (ge_t (by omega)) (fin k ?_ hkn)
    rw [hrun, run_no (fun q => by omega)]
  · have hb := hB.2.2.1 (ps b n T + k) (by omega)
    refine wp_ifn (ge_f (by omega)) (b_getA k66 a0 (b_eq (t_cellp k67 (by omega) (by omega)) ?_))
    rw [hb.2]
    refine b_eq (t_isL hb.1) ?_
    cases hl : isL (b (ps b n T + k)) with
    | false =>
      refine wp_ifp (by decide) (fin k ?_ hkn)
      rw [hrun, run_no (fun q => by rw [hl] at q; exact absurd q.2 (by decide))]
    | true =>
      refine wp_ifn (by decide) (b_getA k66 a0 (b_eq (t_cellp k67 (by omega) (by omega)) ?_))
      rw [hb.2]
      unfold f_X9_withLetter
      refine b_rt ?_
      rw [zn_succ]
      exact hR (n - (ps b n T + (k + 1))) _ _ (by omega) ⟨k + 1, rfl, rfl, rfl, by omega, by rw [hrun, run_go ⟨by omega, hl⟩]; rfl⟩
theorem t_splitWhole {Q : Int32 → Hp → Prop} (hT : TS K A) (hB : TB I J kw b n) (hA : TA I J kw b n T) (hT9 : T < 900) (hp : ps b n T < n) (hL : isL (b (ps b n T)) = false) (hD : isD (b (ps b n T)) = true)
    (q : ∀ I' J', TF I J I' J' → TB I' J' kw b n → TA I' J' kw b n (T + 1) → Q (zn (tkN b n (ps b n T))) (K, I', J', A)) : wp (f_X9_splitWhole (some 66) (zn (ps b n T))) Q (K, I, J, A) := by
  have hT' := hT
  obtain ⟨k66, ⟨a0, a1, a2, a3, a4⟩, k67, k68, k69, k70, k71⟩ := hT'
  have hn := hB.1
  have hL' : ¬ isL (b (ps b n T)) = true := by rw [hL]; decide
  have fin : ∀ k, run isD b n (ps b n T) = ps b n T + k → ps b n T + k ≤ n → wp (f_X9_splitWhole_j49 (some 66) (zn (ps b n T)) (zn (ps b n T + k)) (nvF b (ps b n T) k)) Q (K, I, J, A) := by
    intro k hk hkn
    have hd : run isD b n (ps b n T) - ps b n T = k := by omega
    have eK : tkK kw b n (ps b n T) = if k ≤ 3 then 2 else 1 := by unfold tkK; rw [if_neg hL', if_pos hD, hd]
    have eV : tkV kw b n (ps b n T) = (nvF b (ps b n T) k).toInt64 := by unfold tkV; rw [if_neg hL', if_pos hD, hd]
    have eN : tkN b n (ps b n T) = ps b n T + k := by unfold tkN; rw [if_neg hL', if_pos hD, hk]
    rw [eN] at q
    unfold f_X9_splitWhole_j49
    rw [zn_sub (by omega), show ps b n T + k - ps b n T = k by omega]
    by_cases h3 : k ≤ 3
    · rw [if_pos h3] at eK
      exact wp_ifp (le_t (b := 3) (by omega)) (b_ck k66 (wp_bd (t_keepToken (kd := zn 2) hT hA.2.1 hT9 (wp_rt (q _ _ TF.push hB.push (hA.push hT9 hp eK.symm eV.symm))))))
    · rw [if_neg h3] at eK
      exact wp_ifn (le_f (b := 3) (by omega)) (b_ck k66 (wp_bd (t_keepToken (kd := zn 1) hT hA.2.1 hT9 (wp_rt (q _ _ TF.push hB.push (hA.push hT9 hp eK.symm eV.symm))))))
  unfold f_X9_splitWhole f_X9_splitWhole_l4
  refine pw2 (fun m x y => ∃ k, x = zn (ps b n T + k) ∧ y = nvF b (ps b n T) k ∧ m = n - (ps b n T + k) ∧ ps b n T + k ≤ n ∧ run isD b n (ps b n T) = run isD b n (ps b n T + k)) ?_ fuel (n - ps b n T) _ _ (by unfold fuel; omega) ⟨0, rfl, rfl, rfl, by omega, rfl⟩
  rintro m x y R ⟨k, rfl, rfl, rfl, hkn, hrun⟩ hR
  unfold f_X9_splitWhole_b4
  refine b_getIv k66 hB.2.1 ?_
  by_cases he : ps b n T + k = n
  · refine wp_ifp (ge_t (by omega)) (fin k ?_ hkn)
    rw [hrun, run_no (fun q => by omega)]
  · have hb := hB.2.2.1 (ps b n T + k) (by omega)
    refine wp_ifn (ge_f (by omega)) (b_getA k66 a0 (b_eq (t_cellp k67 (by omega) (by omega)) ?_))
    rw [hb.2]
    refine b_eq (t_isD hb.1) ?_
    cases hl : isD (b (ps b n T + k)) with
    | false =>
      refine wp_ifp (by decide) (fin k ?_ hkn)
      rw [hrun, run_no (fun q => by rw [hl] at q; exact absurd q.2 (by decide))]
    | true =>
      refine wp_ifn (by decide) (b_getA k66 a0 (b_eq (t_cellp k67 (by omega) (by omega)) (b_nm ?_)))
      rw [hb.2, zn_succ]
      exact hR (n - (ps b n T + (k + 1))) _ _ (by omega) ⟨k + 1, rfl, rfl, rfl, by omega, by rw [hrun, run_go ⟨by omega, hl⟩]; rfl⟩
end
