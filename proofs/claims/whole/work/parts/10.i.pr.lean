/-! ===== the beginning leaves the old cells alone ===== -/
def Pr {α : Type} (F : Mo α) : Prop := ∀ h r h', F h = some (r, h') → 64 ≤ h.1.length → (∀ x, x < 64 → h'.2.1 x = h.2.1 x) ∧ 64 ≤ h'.1.length
theorem pr_rt {α : Type} {x : α} : Pr (mRt x) := fun h r h' e hl => by cases e; exact ⟨fun _ _ => rfl, hl⟩
theorem pr_bad {α : Type} : Pr (mBad : Mo α) := fun h r h' e hl => by cases e
theorem pr_bd {α β : Type} {F : Mo α} {G : α → Mo β} (hF : Pr F) (hG : ∀ x, Pr (G x)) : Pr (mBd F G) := fun h r h' e hl => by
  unfold mBd at e
  cases hq : F h with
  | none => rw [hq] at e; cases e
  | some q =>
    rw [hq] at e
    obtain ⟨a1, a2⟩ := hF h q.1 q.2 hq hl
    obtain ⟨b1, b2⟩ := hG q.1 q.2 r h' e a2
    exact ⟨fun x hx => (b1 x hx).trans (a1 x hx), b2⟩
theorem pr_nm {α β : Type} {x : α} {G : α → Mo β} (hG : ∀ x, Pr (G x)) : Pr (mNm x G) := hG x
theorem pr_ite {α : Type} {c : Prop} [Decidable c] {F G : Mo α} (hF : Pr F) (hG : Pr G) : Pr (if c then F else G) := by
  by_cases h : c
  · rw [if_pos h]; exact hF
  · rw [if_neg h]; exact hG
theorem pr_rq {α : Type} {c : Prop} [Decidable c] {F : Mo α} (hF : Pr F) : Pr (mRq c F) := by
  unfold mRq
  exact pr_ite hF pr_bad
theorem pr_ck {α : Type} {c : Nat} {o : Option Nat} {F : Mo α} (hF : Pr F) : Pr (mCk c o F) := fun h r h' e hl => by
  unfold mCk at e
  cases o with
  | none => cases e
  | some a =>
    dsimp only at e
    split at e
    · exact hF h r h' e hl
    · cases e
theorem pr_ckS {α : Type} {o : Option Nat} {F : Mo α} (hF : Pr F) : Pr (mCkS o F) := fun h r h' e hl => by
  unfold mCkS at e
  cases o with
  | none => cases e
  | some a =>
    dsimp only at e
    split at e
    · exact hF h r h' e hl
    · cases e
theorem pr_lq1 {α β : Type} {b : (α → Mo β) → α → Mo β} (hb : ∀ k, (∀ x, Pr (k x)) → ∀ x, Pr (b k x)) : ∀ n x, Pr (lq1 b n x) := by
  intro n
  induction n with
  | zero => exact fun x => pr_bad
  | succ n ih => exact fun x => hb _ ih x
theorem pr_lq2 {α γ β : Type} {b : (α → γ → Mo β) → α → γ → Mo β} (hb : ∀ k, (∀ x y, Pr (k x y)) → ∀ x y, Pr (b k x y)) : ∀ n x y, Pr (lq2 b n x y) := by
  intro n
  induction n with
  | zero => exact fun x y => pr_bad
  | succ n ih => exact fun x y => hb _ ih x y
theorem pr_same {α : Type} {F : Mo α} (h : ∀ h r h', F h = some (r, h') → h' = h) : Pr F := fun h0 r h' e hl => by rw [h h0 r h' e]; exact ⟨fun _ _ => rfl, hl⟩

theorem pr_mGetI (c k : Nat) (o : Option Nat) : Pr (mGetI c k o) := pr_same (fun h r h' e => by
  unfold mGetI at e
  cases o with
  | none => cases e
  | some a =>
    dsimp only at e
    split at e
    · cases e; rfl
    · cases e)
theorem pr_mGetJ (c k : Nat) (o : Option Nat) : Pr (mGetJ c k o) := pr_same (fun h r h' e => by
  unfold mGetJ at e
  cases o with
  | none => cases e
  | some a =>
    dsimp only at e
    split at e
    · cases e; rfl
    · cases e)
theorem pr_mGetA (c k : Nat) (o : Option Nat) : Pr (mGetA c k o) := pr_same (fun h r h' e => by
  unfold mGetA at e
  cases o with
  | none => cases e
  | some a =>
    dsimp only at e
    split at e
    · cases e; rfl
    · cases e)
theorem pr_mLdI (c : Nat) (o : Option Nat) (i : Int32) : Pr (mLdI c o i) := pr_same (fun h r h' e => by
  unfold mLdI at e
  cases o with
  | none => cases e
  | some a =>
    dsimp only at e
    split at e
    · cases e; rfl
    · cases e)
theorem pr_mLdJ (o : Option Nat) (i : Int32) : Pr (mLdJ o i) := pr_same (fun h r h' e => by
  unfold mLdJ at e
  cases o with
  | none => cases e
  | some a =>
    dsimp only at e
    split at e
    · cases e; rfl
    · cases e)
theorem pr_mLdA (c : Nat) (o : Option Nat) (i : Int32) : Pr (mLdA c o i) := pr_same (fun h r h' e => by
  unfold mLdA at e
  cases o with
  | none => cases e
  | some a =>
    dsimp only at e
    split at e
    · cases e; rfl
    · cases e)
theorem pr_mLen (o : Option Nat) : Pr (mLen o) := pr_same (fun h r h' e => by
  unfold mLen at e
  cases o with
  | none => cases e
  | some a =>
    dsimp only at e
    split at e
    · cases e; rfl
    · cases e)
theorem pr_mStrVal (o : Option Nat) : Pr (mStrVal o) := pr_same (fun h r h' e => by
  unfold mStrVal at e
  cases o with
  | none => cases e
  | some a =>
    dsimp only at e
    split at e
    · cases e; rfl
    · cases e)
theorem pr_mStrCod (o : Option Nat) : Pr (mStrCod o) := pr_same (fun h r h' e => by
  unfold mStrCod at e
  cases o with
  | none => cases e
  | some a =>
    dsimp only at e
    split at e
    · cases e; rfl
    · cases e)
theorem pr_mLenS (o : Option Nat) : Pr (mLenS o) := pr_same (fun h r h' e => by
  unfold mLenS at e
  cases o with
  | none => cases e
  | some a =>
    dsimp only at e
    split at e
    · cases e; rfl
    · cases e)
theorem pr_mLdS (o : Option Nat) (i : Int32) : Pr (mLdS o i) := pr_same (fun h r h' e => by
  unfold mLdS at e
  cases o with
  | none => cases e
  | some a =>
    dsimp only at e
    split at e
    · cases e; rfl
    · cases e)
theorem pr_mPutI (c k : Nat) (o : Option Nat) (x : Int32) : Pr (mPutI c k o x) := fun h r h' e hl => by
  unfold mPutI at e
  cases o with
  | none => cases e
  | some a =>
    dsimp only at e
    split at e
    · rename_i hc
      have ha : 64 ≤ a := hc.2
      cases e
      exact ⟨fun y hy => (by show st1 h.2.1 a _ y = h.2.1 y; unfold st1; rw [if_neg (by omega)]), hl⟩
    · cases e
theorem pr_mPutZ (c k : Nat) (o : Option Nat) (x : Int32) : Pr (mPutZ c k o x) := fun h r h' e hl => by
  unfold mPutZ at e
  cases o with
  | none => cases e
  | some a =>
    dsimp only at e
    split at e
    · rename_i hc
      have ha : 64 ≤ a := hc.1.2
      cases e
      exact ⟨fun y hy => (by show st1 h.2.1 a _ y = h.2.1 y; unfold st1; rw [if_neg (by omega)]), hl⟩
    · cases e
theorem pr_mPutJ (c k : Nat) (o : Option Nat) (x : Int64) : Pr (mPutJ c k o x) := fun h r h' e hl => by
  unfold mPutJ at e
  cases o with
  | none => cases e
  | some a =>
    dsimp only at e
    split at e
    · rename_i hc
      have ha : 64 ≤ a := hc.2
      cases e
      exact ⟨fun y hy => rfl, hl⟩
    · cases e
theorem pr_mPutA (c k : Nat) (o x : Option Nat) : Pr (mPutA c k o x) := fun h r h' e hl => by
  unfold mPutA at e
  cases o with
  | none => cases e
  | some a =>
    dsimp only at e
    split at e
    · rename_i hc
      have ha : 64 ≤ a := hc.2
      cases e
      exact ⟨fun y hy => rfl, hl⟩
    · cases e
theorem pr_mStI (o : Option Nat) (i x : Int32) : Pr (mStI o i x) := fun h r h' e hl => by
  unfold mStI at e
  cases o with
  | none => cases e
  | some a =>
    dsimp only at e
    split at e
    · rename_i hc
      have ha : 64 ≤ a := hc.1.2
      cases e
      exact ⟨fun y hy => (by show st1 h.2.1 a _ y = h.2.1 y; unfold st1; rw [if_neg (by omega)]), hl⟩
    · cases e
theorem pr_mStB (o : Option Nat) (i x : Int32) : Pr (mStB o i x) := fun h r h' e hl => by
  unfold mStB at e
  cases o with
  | none => cases e
  | some a =>
    dsimp only at e
    split at e
    · rename_i hc
      have ha : 64 ≤ a := hc.1.2
      cases e
      exact ⟨fun y hy => (by show st1 h.2.1 a _ y = h.2.1 y; unfold st1; rw [if_neg (by omega)]), hl⟩
    · cases e
theorem pr_mStJ (o : Option Nat) (i : Int32) (x : Int64) : Pr (mStJ o i x) := fun h r h' e hl => by
  unfold mStJ at e
  cases o with
  | none => cases e
  | some a =>
    dsimp only at e
    split at e
    · rename_i hc
      have ha : 64 ≤ a := hc.1.2
      cases e
      exact ⟨fun y hy => rfl, hl⟩
    · cases e
theorem pr_mStA (t : Nat) (o : Option Nat) (i : Int32) (x : Option Nat) : Pr (mStA t o i x) := fun h r h' e hl => by
  unfold mStA at e
  cases o with
  | none => cases e
  | some a =>
    cases x with
    | none => cases e
    | some v =>
      dsimp only at e
      split at e
      · cases e; exact ⟨fun _ _ => rfl, hl⟩
      · cases e
theorem st1_lo {h : Hp} {y : Nat} {f : Nat → Int32} (hl : 64 ≤ h.1.length) (hy : y < 64) : st1 h.2.1 h.1.length f y = h.2.1 y := by unfold st1; rw [if_neg (by omega)]
theorem pr_mNew (c : Nat) : Pr (mNew c) := fun h r h' e hl => by
  unfold mNew at e
  split at e
  · cases e
    refine ⟨fun y hy => st1_lo hl hy, ?_⟩
    show 64 ≤ (h.1 ++ [(0, c)]).length
    rw [List.length_append]; omega
  · cases e
theorem pr_mNewA (t : Nat) (n : Int32) : Pr (mNewA t n) := fun h r h' e hl => by
  unfold mNewA at e
  split at e
  · cases e
    refine ⟨fun y hy => st1_lo hl hy, ?_⟩
    show 64 ≤ (h.1 ++ [(t, n.toNatClampNeg)]).length
    rw [List.length_append]; omega
  · cases e
theorem hNews_lo {q : Nat × Nat} {h : Hp} (hl : 64 ≤ h.1.length) : ∀ n, (∀ y, y < 64 → (hNews h q n).2.1 y = h.2.1 y) ∧ 64 ≤ (hNews h q n).1.length := by
  intro n
  induction n with
  | zero => exact ⟨fun _ _ => rfl, hl⟩
  | succ n ih =>
    refine ⟨fun y hy => ?_, ?_⟩
    · show (hNew (hNews h q n) q).2.1 y = _
      rw [show (hNew (hNews h q n) q).2.1 y = (hNews h q n).2.1 y from st1_lo ih.2 hy]
      exact ih.1 y hy
    · show 64 ≤ ((hNews h q n).1 ++ [q]).length
      rw [List.length_append]; have := ih.2; omega
theorem pr_mNewM (n k : Int32) : Pr (mNewM n k) := fun h r h' e hl => by
  unfold mNewM at e
  split at e
  · cases e
    have h0 : (∀ y, y < 64 → (hNew h (6, n.toNatClampNeg)).2.1 y = h.2.1 y) ∧ 64 ≤ (hNew h (6, n.toNatClampNeg)).1.length := ⟨fun y hy => st1_lo hl hy, by show 64 ≤ (h.1 ++ [(6, n.toNatClampNeg)]).length; rw [List.length_append]; omega⟩
    have h1 := hNews_lo (q := (2, k.toNatClampNeg)) h0.2 n.toNatClampNeg
    exact ⟨fun y hy => (h1.1 y hy).trans (h0.1 y hy), h1.2⟩
  · cases e
theorem pr_f_X2_init (p0 : (Option Nat)) : Pr (f_X2_init p0) := by
  unfold f_X2_init
  repeat (first
    | with_reducible exact pr_rt
    | with_reducible exact pr_bad
    | with_reducible exact pr_mGetI _ _ _
    | with_reducible exact pr_mGetJ _ _ _
    | with_reducible exact pr_mGetA _ _ _
    | with_reducible exact pr_mLdI _ _ _
    | with_reducible exact pr_mLdJ _ _
    | with_reducible exact pr_mLdA _ _ _
    | with_reducible exact pr_mLen _
    | with_reducible exact pr_mStrVal _
    | with_reducible exact pr_mStrCod _
    | with_reducible exact pr_mLenS _
    | with_reducible exact pr_mLdS _ _
    | with_reducible exact pr_mPutI _ _ _ _
    | with_reducible exact pr_mPutZ _ _ _ _
    | with_reducible exact pr_mPutJ _ _ _ _
    | with_reducible exact pr_mPutA _ _ _ _
    | with_reducible exact pr_mStI _ _ _
    | with_reducible exact pr_mStB _ _ _
    | with_reducible exact pr_mStJ _ _ _
    | with_reducible exact pr_mStA _ _ _ _
    | with_reducible exact pr_mNew _
    | with_reducible exact pr_mNewA _ _
    | with_reducible exact pr_mNewM _ _
    | with_reducible refine pr_bd ?_ (fun _ => ?_)
    | with_reducible refine pr_nm (fun _ => ?_)
    | with_reducible refine pr_ite ?_ ?_
    | with_reducible refine pr_rq ?_
    | with_reducible refine pr_ck ?_
    | with_reducible refine pr_ckS ?_)
theorem pr_f_X1_init (p0 : (Option Nat)) : Pr (f_X1_init p0) := by
  unfold f_X1_init
  repeat (first
    | with_reducible exact pr_rt
    | with_reducible exact pr_bad
    | with_reducible exact pr_mGetI _ _ _
    | with_reducible exact pr_mGetJ _ _ _
    | with_reducible exact pr_mGetA _ _ _
    | with_reducible exact pr_mLdI _ _ _
    | with_reducible exact pr_mLdJ _ _
    | with_reducible exact pr_mLdA _ _ _
    | with_reducible exact pr_mLen _
    | with_reducible exact pr_mStrVal _
    | with_reducible exact pr_mStrCod _
    | with_reducible exact pr_mLenS _
    | with_reducible exact pr_mLdS _ _
    | with_reducible exact pr_mPutI _ _ _ _
    | with_reducible exact pr_mPutZ _ _ _ _
    | with_reducible exact pr_mPutJ _ _ _ _
    | with_reducible exact pr_mPutA _ _ _ _
    | with_reducible exact pr_mStI _ _ _
    | with_reducible exact pr_mStB _ _ _
    | with_reducible exact pr_mStJ _ _ _
    | with_reducible exact pr_mStA _ _ _ _
    | with_reducible exact pr_mNew _
    | with_reducible exact pr_mNewA _ _
    | with_reducible exact pr_mNewM _ _
    | with_reducible exact pr_f_X2_init _
    | with_reducible refine pr_bd ?_ (fun _ => ?_)
    | with_reducible refine pr_nm (fun _ => ?_)
    | with_reducible refine pr_ite ?_ ?_
    | with_reducible refine pr_rq ?_
    | with_reducible refine pr_ck ?_
    | with_reducible refine pr_ckS ?_)
theorem pr_f_X0_init_b116 (x0 : (Option Nat)) (k116 : Int32 → Mo Unit) (x1 : Int32) (hk : ∀ x, Pr (k116 x)) : Pr (f_X0_init_b116 x0 k116 x1) := by
  unfold f_X0_init_b116
  repeat (first
    | with_reducible exact pr_rt
    | with_reducible exact pr_bad
    | with_reducible exact pr_mGetI _ _ _
    | with_reducible exact pr_mGetJ _ _ _
    | with_reducible exact pr_mGetA _ _ _
    | with_reducible exact pr_mLdI _ _ _
    | with_reducible exact pr_mLdJ _ _
    | with_reducible exact pr_mLdA _ _ _
    | with_reducible exact pr_mLen _
    | with_reducible exact pr_mStrVal _
    | with_reducible exact pr_mStrCod _
    | with_reducible exact pr_mLenS _
    | with_reducible exact pr_mLdS _ _
    | with_reducible exact pr_mPutI _ _ _ _
    | with_reducible exact pr_mPutZ _ _ _ _
    | with_reducible exact pr_mPutJ _ _ _ _
    | with_reducible exact pr_mPutA _ _ _ _
    | with_reducible exact pr_mStI _ _ _
    | with_reducible exact pr_mStB _ _ _
    | with_reducible exact pr_mStJ _ _ _
    | with_reducible exact pr_mStA _ _ _ _
    | with_reducible exact pr_mNew _
    | with_reducible exact pr_mNewA _ _
    | with_reducible exact pr_mNewM _ _
    | with_reducible exact pr_f_X2_init _
    | with_reducible exact pr_f_X1_init _
    | with_reducible exact hk _
    | with_reducible exact hk _ _
    | with_reducible refine pr_bd ?_ (fun _ => ?_)
    | with_reducible refine pr_nm (fun _ => ?_)
    | with_reducible refine pr_ite ?_ ?_
    | with_reducible refine pr_rq ?_
    | with_reducible refine pr_ck ?_
    | with_reducible refine pr_ckS ?_)
theorem pr_f_X0_init_l116 (x0 : (Option Nat)) : ∀ x, Pr (f_X0_init_l116 x0 x) := pr_lq1 (fun k hk x => pr_f_X0_init_b116 _ k x hk) fuel
theorem pr_f_X0_init_b86 (x0 : (Option Nat)) (k86 : Int32 → Mo Unit) (x1 : Int32) (hk : ∀ x, Pr (k86 x)) : Pr (f_X0_init_b86 x0 k86 x1) := by
  unfold f_X0_init_b86
  repeat (first
    | with_reducible exact pr_rt
    | with_reducible exact pr_bad
    | with_reducible exact pr_mGetI _ _ _
    | with_reducible exact pr_mGetJ _ _ _
    | with_reducible exact pr_mGetA _ _ _
    | with_reducible exact pr_mLdI _ _ _
    | with_reducible exact pr_mLdJ _ _
    | with_reducible exact pr_mLdA _ _ _
    | with_reducible exact pr_mLen _
    | with_reducible exact pr_mStrVal _
    | with_reducible exact pr_mStrCod _
    | with_reducible exact pr_mLenS _
    | with_reducible exact pr_mLdS _ _
    | with_reducible exact pr_mPutI _ _ _ _
    | with_reducible exact pr_mPutZ _ _ _ _
    | with_reducible exact pr_mPutJ _ _ _ _
    | with_reducible exact pr_mPutA _ _ _ _
    | with_reducible exact pr_mStI _ _ _
    | with_reducible exact pr_mStB _ _ _
    | with_reducible exact pr_mStJ _ _ _
    | with_reducible exact pr_mStA _ _ _ _
    | with_reducible exact pr_mNew _
    | with_reducible exact pr_mNewA _ _
    | with_reducible exact pr_mNewM _ _
    | with_reducible exact pr_f_X2_init _
    | with_reducible exact pr_f_X1_init _
    | with_reducible exact pr_f_X0_init_l116 _ _
    | with_reducible exact hk _
    | with_reducible exact hk _ _
    | with_reducible refine pr_bd ?_ (fun _ => ?_)
    | with_reducible refine pr_nm (fun _ => ?_)
    | with_reducible refine pr_ite ?_ ?_
    | with_reducible refine pr_rq ?_
    | with_reducible refine pr_ck ?_
    | with_reducible refine pr_ckS ?_)
theorem pr_f_X0_init_l86 (x0 : (Option Nat)) : ∀ x, Pr (f_X0_init_l86 x0 x) := pr_lq1 (fun k hk x => pr_f_X0_init_b86 _ k x hk) fuel
theorem pr_f_X0_init (p0 : (Option Nat)) : Pr (f_X0_init p0) := by
  unfold f_X0_init
  repeat (first
    | with_reducible exact pr_rt
    | with_reducible exact pr_bad
    | with_reducible exact pr_mGetI _ _ _
    | with_reducible exact pr_mGetJ _ _ _
    | with_reducible exact pr_mGetA _ _ _
    | with_reducible exact pr_mLdI _ _ _
    | with_reducible exact pr_mLdJ _ _
    | with_reducible exact pr_mLdA _ _ _
    | with_reducible exact pr_mLen _
    | with_reducible exact pr_mStrVal _
    | with_reducible exact pr_mStrCod _
    | with_reducible exact pr_mLenS _
    | with_reducible exact pr_mLdS _ _
    | with_reducible exact pr_mPutI _ _ _ _
    | with_reducible exact pr_mPutZ _ _ _ _
    | with_reducible exact pr_mPutJ _ _ _ _
    | with_reducible exact pr_mPutA _ _ _ _
    | with_reducible exact pr_mStI _ _ _
    | with_reducible exact pr_mStB _ _ _
    | with_reducible exact pr_mStJ _ _ _
    | with_reducible exact pr_mStA _ _ _ _
    | with_reducible exact pr_mNew _
    | with_reducible exact pr_mNewA _ _
    | with_reducible exact pr_mNewM _ _
    | with_reducible exact pr_f_X2_init _
    | with_reducible exact pr_f_X1_init _
    | with_reducible exact pr_f_X0_init_l116 _ _
    | with_reducible exact pr_f_X0_init_l86 _ _
    | with_reducible refine pr_bd ?_ (fun _ => ?_)
    | with_reducible refine pr_nm (fun _ => ?_)
    | with_reducible refine pr_ite ?_ ?_
    | with_reducible refine pr_rq ?_
    | with_reducible refine pr_ck ?_
    | with_reducible refine pr_ckS ?_)
theorem pr_f_X6_put (p0 : (Option Nat)) (p1 : Int32) (p2 : Int64) : Pr (f_X6_put p0 p1 p2) := by
  unfold f_X6_put
  repeat (first
    | with_reducible exact pr_rt
    | with_reducible exact pr_bad
    | with_reducible exact pr_mGetI _ _ _
    | with_reducible exact pr_mGetJ _ _ _
    | with_reducible exact pr_mGetA _ _ _
    | with_reducible exact pr_mLdI _ _ _
    | with_reducible exact pr_mLdJ _ _
    | with_reducible exact pr_mLdA _ _ _
    | with_reducible exact pr_mLen _
    | with_reducible exact pr_mStrVal _
    | with_reducible exact pr_mStrCod _
    | with_reducible exact pr_mLenS _
    | with_reducible exact pr_mLdS _ _
    | with_reducible exact pr_mPutI _ _ _ _
    | with_reducible exact pr_mPutZ _ _ _ _
    | with_reducible exact pr_mPutJ _ _ _ _
    | with_reducible exact pr_mPutA _ _ _ _
    | with_reducible exact pr_mStI _ _ _
    | with_reducible exact pr_mStB _ _ _
    | with_reducible exact pr_mStJ _ _ _
    | with_reducible exact pr_mStA _ _ _ _
    | with_reducible exact pr_mNew _
    | with_reducible exact pr_mNewA _ _
    | with_reducible exact pr_mNewM _ _
    | with_reducible exact pr_f_X2_init _
    | with_reducible exact pr_f_X1_init _
    | with_reducible exact pr_f_X0_init_l116 _ _
    | with_reducible exact pr_f_X0_init_l86 _ _
    | with_reducible exact pr_f_X0_init _
    | with_reducible refine pr_bd ?_ (fun _ => ?_)
    | with_reducible refine pr_nm (fun _ => ?_)
    | with_reducible refine pr_ite ?_ ?_
    | with_reducible refine pr_rq ?_
    | with_reducible refine pr_ck ?_
    | with_reducible refine pr_ckS ?_)
theorem pr_f_X6_at (p0 : (Option Nat)) (p1 : Int32) : Pr (f_X6_at p0 p1) := by
  unfold f_X6_at
  repeat (first
    | with_reducible exact pr_rt
    | with_reducible exact pr_bad
    | with_reducible exact pr_mGetI _ _ _
    | with_reducible exact pr_mGetJ _ _ _
    | with_reducible exact pr_mGetA _ _ _
    | with_reducible exact pr_mLdI _ _ _
    | with_reducible exact pr_mLdJ _ _
    | with_reducible exact pr_mLdA _ _ _
    | with_reducible exact pr_mLen _
    | with_reducible exact pr_mStrVal _
    | with_reducible exact pr_mStrCod _
    | with_reducible exact pr_mLenS _
    | with_reducible exact pr_mLdS _ _
    | with_reducible exact pr_mPutI _ _ _ _
    | with_reducible exact pr_mPutZ _ _ _ _
    | with_reducible exact pr_mPutJ _ _ _ _
    | with_reducible exact pr_mPutA _ _ _ _
    | with_reducible exact pr_mStI _ _ _
    | with_reducible exact pr_mStB _ _ _
    | with_reducible exact pr_mStJ _ _ _
    | with_reducible exact pr_mStA _ _ _ _
    | with_reducible exact pr_mNew _
    | with_reducible exact pr_mNewA _ _
    | with_reducible exact pr_mNewM _ _
    | with_reducible exact pr_f_X2_init _
    | with_reducible exact pr_f_X1_init _
    | with_reducible exact pr_f_X0_init_l116 _ _
    | with_reducible exact pr_f_X0_init_l86 _ _
    | with_reducible exact pr_f_X0_init _
    | with_reducible exact pr_f_X6_put _ _ _
    | with_reducible refine pr_bd ?_ (fun _ => ?_)
    | with_reducible refine pr_nm (fun _ => ?_)
    | with_reducible refine pr_ite ?_ ?_
    | with_reducible refine pr_rq ?_
    | with_reducible refine pr_ck ?_
    | with_reducible refine pr_ckS ?_)
theorem pr_f_J0_coder_7d493 (p0 : (Option Nat)) : Pr (f_J0_coder_7d493 p0) := by
  unfold f_J0_coder_7d493
  repeat (first
    | with_reducible exact pr_rt
    | with_reducible exact pr_bad
    | with_reducible exact pr_mGetI _ _ _
    | with_reducible exact pr_mGetJ _ _ _
    | with_reducible exact pr_mGetA _ _ _
    | with_reducible exact pr_mLdI _ _ _
    | with_reducible exact pr_mLdJ _ _
    | with_reducible exact pr_mLdA _ _ _
    | with_reducible exact pr_mLen _
    | with_reducible exact pr_mStrVal _
    | with_reducible exact pr_mStrCod _
    | with_reducible exact pr_mLenS _
    | with_reducible exact pr_mLdS _ _
    | with_reducible exact pr_mPutI _ _ _ _
    | with_reducible exact pr_mPutZ _ _ _ _
    | with_reducible exact pr_mPutJ _ _ _ _
    | with_reducible exact pr_mPutA _ _ _ _
    | with_reducible exact pr_mStI _ _ _
    | with_reducible exact pr_mStB _ _ _
    | with_reducible exact pr_mStJ _ _ _
    | with_reducible exact pr_mStA _ _ _ _
    | with_reducible exact pr_mNew _
    | with_reducible exact pr_mNewA _ _
    | with_reducible exact pr_mNewM _ _
    | with_reducible exact pr_f_X2_init _
    | with_reducible exact pr_f_X1_init _
    | with_reducible exact pr_f_X0_init_l116 _ _
    | with_reducible exact pr_f_X0_init_l86 _ _
    | with_reducible exact pr_f_X0_init _
    | with_reducible exact pr_f_X6_put _ _ _
    | with_reducible exact pr_f_X6_at _ _
    | with_reducible refine pr_bd ?_ (fun _ => ?_)
    | with_reducible refine pr_nm (fun _ => ?_)
    | with_reducible refine pr_ite ?_ ?_
    | with_reducible refine pr_rq ?_
    | with_reducible refine pr_ck ?_
    | with_reducible refine pr_ckS ?_)
theorem pr_f_J0_length_8abf5 (p0 : (Option Nat)) : Pr (f_J0_length_8abf5 p0) := by
  unfold f_J0_length_8abf5
  repeat (first
    | with_reducible exact pr_rt
    | with_reducible exact pr_bad
    | with_reducible exact pr_mGetI _ _ _
    | with_reducible exact pr_mGetJ _ _ _
    | with_reducible exact pr_mGetA _ _ _
    | with_reducible exact pr_mLdI _ _ _
    | with_reducible exact pr_mLdJ _ _
    | with_reducible exact pr_mLdA _ _ _
    | with_reducible exact pr_mLen _
    | with_reducible exact pr_mStrVal _
    | with_reducible exact pr_mStrCod _
    | with_reducible exact pr_mLenS _
    | with_reducible exact pr_mLdS _ _
    | with_reducible exact pr_mPutI _ _ _ _
    | with_reducible exact pr_mPutZ _ _ _ _
    | with_reducible exact pr_mPutJ _ _ _ _
    | with_reducible exact pr_mPutA _ _ _ _
    | with_reducible exact pr_mStI _ _ _
    | with_reducible exact pr_mStB _ _ _
    | with_reducible exact pr_mStJ _ _ _
    | with_reducible exact pr_mStA _ _ _ _
    | with_reducible exact pr_mNew _
    | with_reducible exact pr_mNewA _ _
    | with_reducible exact pr_mNewM _ _
    | with_reducible exact pr_f_X2_init _
    | with_reducible exact pr_f_X1_init _
    | with_reducible exact pr_f_X0_init_l116 _ _
    | with_reducible exact pr_f_X0_init_l86 _ _
    | with_reducible exact pr_f_X0_init _
    | with_reducible exact pr_f_X6_put _ _ _
    | with_reducible exact pr_f_X6_at _ _
    | with_reducible exact pr_f_J0_coder_7d493 _
    | with_reducible refine pr_bd ?_ (fun _ => ?_)
    | with_reducible refine pr_nm (fun _ => ?_)
    | with_reducible refine pr_ite ?_ ?_
    | with_reducible refine pr_rq ?_
    | with_reducible refine pr_ck ?_
    | with_reducible refine pr_ckS ?_)
theorem pr_f_J0_isLatin1_aae02 (p0 : (Option Nat)) : Pr (f_J0_isLatin1_aae02 p0) := by
  unfold f_J0_isLatin1_aae02
  repeat (first
    | with_reducible exact pr_rt
    | with_reducible exact pr_bad
    | with_reducible exact pr_mGetI _ _ _
    | with_reducible exact pr_mGetJ _ _ _
    | with_reducible exact pr_mGetA _ _ _
    | with_reducible exact pr_mLdI _ _ _
    | with_reducible exact pr_mLdJ _ _
    | with_reducible exact pr_mLdA _ _ _
    | with_reducible exact pr_mLen _
    | with_reducible exact pr_mStrVal _
    | with_reducible exact pr_mStrCod _
    | with_reducible exact pr_mLenS _
    | with_reducible exact pr_mLdS _ _
    | with_reducible exact pr_mPutI _ _ _ _
    | with_reducible exact pr_mPutZ _ _ _ _
    | with_reducible exact pr_mPutJ _ _ _ _
    | with_reducible exact pr_mPutA _ _ _ _
    | with_reducible exact pr_mStI _ _ _
    | with_reducible exact pr_mStB _ _ _
    | with_reducible exact pr_mStJ _ _ _
    | with_reducible exact pr_mStA _ _ _ _
    | with_reducible exact pr_mNew _
    | with_reducible exact pr_mNewA _ _
    | with_reducible exact pr_mNewM _ _
    | with_reducible exact pr_f_X2_init _
    | with_reducible exact pr_f_X1_init _
    | with_reducible exact pr_f_X0_init_l116 _ _
    | with_reducible exact pr_f_X0_init_l86 _ _
    | with_reducible exact pr_f_X0_init _
    | with_reducible exact pr_f_X6_put _ _ _
    | with_reducible exact pr_f_X6_at _ _
    | with_reducible exact pr_f_J0_coder_7d493 _
    | with_reducible exact pr_f_J0_length_8abf5 _
    | with_reducible refine pr_bd ?_ (fun _ => ?_)
    | with_reducible refine pr_nm (fun _ => ?_)
    | with_reducible refine pr_ite ?_ ?_
    | with_reducible refine pr_rq ?_
    | with_reducible refine pr_ck ?_
    | with_reducible refine pr_ckS ?_)
theorem pr_f_J3_checkIndex_8e157 (p0 : Int32) (p1 : Int32) : Pr (f_J3_checkIndex_8e157 p0 p1) := by
  unfold f_J3_checkIndex_8e157
  repeat (first
    | with_reducible exact pr_rt
    | with_reducible exact pr_bad
    | with_reducible exact pr_mGetI _ _ _
    | with_reducible exact pr_mGetJ _ _ _
    | with_reducible exact pr_mGetA _ _ _
    | with_reducible exact pr_mLdI _ _ _
    | with_reducible exact pr_mLdJ _ _
    | with_reducible exact pr_mLdA _ _ _
    | with_reducible exact pr_mLen _
    | with_reducible exact pr_mStrVal _
    | with_reducible exact pr_mStrCod _
    | with_reducible exact pr_mLenS _
    | with_reducible exact pr_mLdS _ _
    | with_reducible exact pr_mPutI _ _ _ _
    | with_reducible exact pr_mPutZ _ _ _ _
    | with_reducible exact pr_mPutJ _ _ _ _
    | with_reducible exact pr_mPutA _ _ _ _
    | with_reducible exact pr_mStI _ _ _
    | with_reducible exact pr_mStB _ _ _
    | with_reducible exact pr_mStJ _ _ _
    | with_reducible exact pr_mStA _ _ _ _
    | with_reducible exact pr_mNew _
    | with_reducible exact pr_mNewA _ _
    | with_reducible exact pr_mNewM _ _
    | with_reducible exact pr_f_X2_init _
    | with_reducible exact pr_f_X1_init _
    | with_reducible exact pr_f_X0_init_l116 _ _
    | with_reducible exact pr_f_X0_init_l86 _ _
    | with_reducible exact pr_f_X0_init _
    | with_reducible exact pr_f_X6_put _ _ _
    | with_reducible exact pr_f_X6_at _ _
    | with_reducible exact pr_f_J0_coder_7d493 _
    | with_reducible exact pr_f_J0_length_8abf5 _
    | with_reducible exact pr_f_J0_isLatin1_aae02 _
    | with_reducible refine pr_bd ?_ (fun _ => ?_)
    | with_reducible refine pr_nm (fun _ => ?_)
    | with_reducible refine pr_ite ?_ ?_
    | with_reducible refine pr_rq ?_
    | with_reducible refine pr_ck ?_
    | with_reducible refine pr_ckS ?_)
theorem pr_f_J0_checkIndex_df160 (p0 : Int32) (p1 : Int32) : Pr (f_J0_checkIndex_df160 p0 p1) := by
  unfold f_J0_checkIndex_df160
  repeat (first
    | with_reducible exact pr_rt
    | with_reducible exact pr_bad
    | with_reducible exact pr_mGetI _ _ _
    | with_reducible exact pr_mGetJ _ _ _
    | with_reducible exact pr_mGetA _ _ _
    | with_reducible exact pr_mLdI _ _ _
    | with_reducible exact pr_mLdJ _ _
    | with_reducible exact pr_mLdA _ _ _
    | with_reducible exact pr_mLen _
    | with_reducible exact pr_mStrVal _
    | with_reducible exact pr_mStrCod _
    | with_reducible exact pr_mLenS _
    | with_reducible exact pr_mLdS _ _
    | with_reducible exact pr_mPutI _ _ _ _
    | with_reducible exact pr_mPutZ _ _ _ _
    | with_reducible exact pr_mPutJ _ _ _ _
    | with_reducible exact pr_mPutA _ _ _ _
    | with_reducible exact pr_mStI _ _ _
    | with_reducible exact pr_mStB _ _ _
    | with_reducible exact pr_mStJ _ _ _
    | with_reducible exact pr_mStA _ _ _ _
    | with_reducible exact pr_mNew _
    | with_reducible exact pr_mNewA _ _
    | with_reducible exact pr_mNewM _ _
    | with_reducible exact pr_f_X2_init _
    | with_reducible exact pr_f_X1_init _
    | with_reducible exact pr_f_X0_init_l116 _ _
    | with_reducible exact pr_f_X0_init_l86 _ _
    | with_reducible exact pr_f_X0_init _
    | with_reducible exact pr_f_X6_put _ _ _
    | with_reducible exact pr_f_X6_at _ _
    | with_reducible exact pr_f_J0_coder_7d493 _
    | with_reducible exact pr_f_J0_length_8abf5 _
    | with_reducible exact pr_f_J0_isLatin1_aae02 _
    | with_reducible exact pr_f_J3_checkIndex_8e157 _ _
    | with_reducible refine pr_bd ?_ (fun _ => ?_)
    | with_reducible refine pr_nm (fun _ => ?_)
    | with_reducible refine pr_ite ?_ ?_
    | with_reducible refine pr_rq ?_
    | with_reducible refine pr_ck ?_
    | with_reducible refine pr_ckS ?_)
theorem pr_f_J1_charAt_3b067 (p0 : (Option Nat)) (p1 : Int32) : Pr (f_J1_charAt_3b067 p0 p1) := by
  unfold f_J1_charAt_3b067
  repeat (first
    | with_reducible exact pr_rt
    | with_reducible exact pr_bad
    | with_reducible exact pr_mGetI _ _ _
    | with_reducible exact pr_mGetJ _ _ _
    | with_reducible exact pr_mGetA _ _ _
    | with_reducible exact pr_mLdI _ _ _
    | with_reducible exact pr_mLdJ _ _
    | with_reducible exact pr_mLdA _ _ _
    | with_reducible exact pr_mLen _
    | with_reducible exact pr_mStrVal _
    | with_reducible exact pr_mStrCod _
    | with_reducible exact pr_mLenS _
    | with_reducible exact pr_mLdS _ _
    | with_reducible exact pr_mPutI _ _ _ _
    | with_reducible exact pr_mPutZ _ _ _ _
    | with_reducible exact pr_mPutJ _ _ _ _
    | with_reducible exact pr_mPutA _ _ _ _
    | with_reducible exact pr_mStI _ _ _
    | with_reducible exact pr_mStB _ _ _
    | with_reducible exact pr_mStJ _ _ _
    | with_reducible exact pr_mStA _ _ _ _
    | with_reducible exact pr_mNew _
    | with_reducible exact pr_mNewA _ _
    | with_reducible exact pr_mNewM _ _
    | with_reducible exact pr_f_X2_init _
    | with_reducible exact pr_f_X1_init _
    | with_reducible exact pr_f_X0_init_l116 _ _
    | with_reducible exact pr_f_X0_init_l86 _ _
    | with_reducible exact pr_f_X0_init _
    | with_reducible exact pr_f_X6_put _ _ _
    | with_reducible exact pr_f_X6_at _ _
    | with_reducible exact pr_f_J0_coder_7d493 _
    | with_reducible exact pr_f_J0_length_8abf5 _
    | with_reducible exact pr_f_J0_isLatin1_aae02 _
    | with_reducible exact pr_f_J3_checkIndex_8e157 _ _
    | with_reducible exact pr_f_J0_checkIndex_df160 _ _
    | with_reducible refine pr_bd ?_ (fun _ => ?_)
    | with_reducible refine pr_nm (fun _ => ?_)
    | with_reducible refine pr_ite ?_ ?_
    | with_reducible refine pr_rq ?_
    | with_reducible refine pr_ck ?_
    | with_reducible refine pr_ckS ?_)
theorem pr_f_J0_charAt_5068e (p0 : (Option Nat)) (p1 : Int32) : Pr (f_J0_charAt_5068e p0 p1) := by
  unfold f_J0_charAt_5068e
  repeat (first
    | with_reducible exact pr_rt
    | with_reducible exact pr_bad
    | with_reducible exact pr_mGetI _ _ _
    | with_reducible exact pr_mGetJ _ _ _
    | with_reducible exact pr_mGetA _ _ _
    | with_reducible exact pr_mLdI _ _ _
    | with_reducible exact pr_mLdJ _ _
    | with_reducible exact pr_mLdA _ _ _
    | with_reducible exact pr_mLen _
    | with_reducible exact pr_mStrVal _
    | with_reducible exact pr_mStrCod _
    | with_reducible exact pr_mLenS _
    | with_reducible exact pr_mLdS _ _
    | with_reducible exact pr_mPutI _ _ _ _
    | with_reducible exact pr_mPutZ _ _ _ _
    | with_reducible exact pr_mPutJ _ _ _ _
    | with_reducible exact pr_mPutA _ _ _ _
    | with_reducible exact pr_mStI _ _ _
    | with_reducible exact pr_mStB _ _ _
    | with_reducible exact pr_mStJ _ _ _
    | with_reducible exact pr_mStA _ _ _ _
    | with_reducible exact pr_mNew _
    | with_reducible exact pr_mNewA _ _
    | with_reducible exact pr_mNewM _ _
    | with_reducible exact pr_f_X2_init _
    | with_reducible exact pr_f_X1_init _
    | with_reducible exact pr_f_X0_init_l116 _ _
    | with_reducible exact pr_f_X0_init_l86 _ _
    | with_reducible exact pr_f_X0_init _
    | with_reducible exact pr_f_X6_put _ _ _
    | with_reducible exact pr_f_X6_at _ _
    | with_reducible exact pr_f_J0_coder_7d493 _
    | with_reducible exact pr_f_J0_length_8abf5 _
    | with_reducible exact pr_f_J0_isLatin1_aae02 _
    | with_reducible exact pr_f_J3_checkIndex_8e157 _ _
    | with_reducible exact pr_f_J0_checkIndex_df160 _ _
    | with_reducible exact pr_f_J1_charAt_3b067 _ _
    | with_reducible refine pr_bd ?_ (fun _ => ?_)
    | with_reducible refine pr_nm (fun _ => ?_)
    | with_reducible refine pr_ite ?_ ?_
    | with_reducible refine pr_rq ?_
    | with_reducible refine pr_ck ?_
    | with_reducible refine pr_ckS ?_)
theorem pr_f_X9_withLetter (p0 : Int64) (p2 : Int32) : Pr (f_X9_withLetter p0 p2) := by
  unfold f_X9_withLetter
  repeat (first
    | with_reducible exact pr_rt
    | with_reducible exact pr_bad
    | with_reducible exact pr_mGetI _ _ _
    | with_reducible exact pr_mGetJ _ _ _
    | with_reducible exact pr_mGetA _ _ _
    | with_reducible exact pr_mLdI _ _ _
    | with_reducible exact pr_mLdJ _ _
    | with_reducible exact pr_mLdA _ _ _
    | with_reducible exact pr_mLen _
    | with_reducible exact pr_mStrVal _
    | with_reducible exact pr_mStrCod _
    | with_reducible exact pr_mLenS _
    | with_reducible exact pr_mLdS _ _
    | with_reducible exact pr_mPutI _ _ _ _
    | with_reducible exact pr_mPutZ _ _ _ _
    | with_reducible exact pr_mPutJ _ _ _ _
    | with_reducible exact pr_mPutA _ _ _ _
    | with_reducible exact pr_mStI _ _ _
    | with_reducible exact pr_mStB _ _ _
    | with_reducible exact pr_mStJ _ _ _
    | with_reducible exact pr_mStA _ _ _ _
    | with_reducible exact pr_mNew _
    | with_reducible exact pr_mNewA _ _
    | with_reducible exact pr_mNewM _ _
    | with_reducible exact pr_f_X2_init _
    | with_reducible exact pr_f_X1_init _
    | with_reducible exact pr_f_X0_init_l116 _ _
    | with_reducible exact pr_f_X0_init_l86 _ _
    | with_reducible exact pr_f_X0_init _
    | with_reducible exact pr_f_X6_put _ _ _
    | with_reducible exact pr_f_X6_at _ _
    | with_reducible exact pr_f_J0_coder_7d493 _
    | with_reducible exact pr_f_J0_length_8abf5 _
    | with_reducible exact pr_f_J0_isLatin1_aae02 _
    | with_reducible exact pr_f_J3_checkIndex_8e157 _ _
    | with_reducible exact pr_f_J0_checkIndex_df160 _ _
    | with_reducible exact pr_f_J1_charAt_3b067 _ _
    | with_reducible exact pr_f_J0_charAt_5068e _ _
    | with_reducible refine pr_bd ?_ (fun _ => ?_)
    | with_reducible refine pr_nm (fun _ => ?_)
    | with_reducible refine pr_ite ?_ ?_
    | with_reducible refine pr_rq ?_
    | with_reducible refine pr_ck ?_
    | with_reducible refine pr_ckS ?_)
theorem pr_f_X9_init_b82 (x0 : (Option Nat)) (k82 : Int32 → Int32 → Mo Unit) (x1 : Int32) (x2 : Int32) (hk : ∀ x y, Pr (k82 x y)) : Pr (f_X9_init_b82 x0 k82 x1 x2) := by
  unfold f_X9_init_b82
  repeat (first
    | with_reducible exact pr_rt
    | with_reducible exact pr_bad
    | with_reducible exact pr_mGetI _ _ _
    | with_reducible exact pr_mGetJ _ _ _
    | with_reducible exact pr_mGetA _ _ _
    | with_reducible exact pr_mLdI _ _ _
    | with_reducible exact pr_mLdJ _ _
    | with_reducible exact pr_mLdA _ _ _
    | with_reducible exact pr_mLen _
    | with_reducible exact pr_mStrVal _
    | with_reducible exact pr_mStrCod _
    | with_reducible exact pr_mLenS _
    | with_reducible exact pr_mLdS _ _
    | with_reducible exact pr_mPutI _ _ _ _
    | with_reducible exact pr_mPutZ _ _ _ _
    | with_reducible exact pr_mPutJ _ _ _ _
    | with_reducible exact pr_mPutA _ _ _ _
    | with_reducible exact pr_mStI _ _ _
    | with_reducible exact pr_mStB _ _ _
    | with_reducible exact pr_mStJ _ _ _
    | with_reducible exact pr_mStA _ _ _ _
    | with_reducible exact pr_mNew _
    | with_reducible exact pr_mNewA _ _
    | with_reducible exact pr_mNewM _ _
    | with_reducible exact pr_f_X2_init _
    | with_reducible exact pr_f_X1_init _
    | with_reducible exact pr_f_X0_init_l116 _ _
    | with_reducible exact pr_f_X0_init_l86 _ _
    | with_reducible exact pr_f_X0_init _
    | with_reducible exact pr_f_X6_put _ _ _
    | with_reducible exact pr_f_X6_at _ _
    | with_reducible exact pr_f_J0_coder_7d493 _
    | with_reducible exact pr_f_J0_length_8abf5 _
    | with_reducible exact pr_f_J0_isLatin1_aae02 _
    | with_reducible exact pr_f_J3_checkIndex_8e157 _ _
    | with_reducible exact pr_f_J0_checkIndex_df160 _ _
    | with_reducible exact pr_f_J1_charAt_3b067 _ _
    | with_reducible exact pr_f_J0_charAt_5068e _ _
    | with_reducible exact pr_f_X9_withLetter _ _
    | with_reducible exact hk _
    | with_reducible exact hk _ _
    | with_reducible refine pr_bd ?_ (fun _ => ?_)
    | with_reducible refine pr_nm (fun _ => ?_)
    | with_reducible refine pr_ite ?_ ?_
    | with_reducible refine pr_rq ?_
    | with_reducible refine pr_ck ?_
    | with_reducible refine pr_ckS ?_)
theorem pr_f_X9_init_l82 (x0 : (Option Nat)) : ∀ x y, Pr (f_X9_init_l82 x0 x y) := pr_lq2 (fun k hk x y => pr_f_X9_init_b82 _ k x y hk) fuel
theorem pr_f_X9_init (p0 : (Option Nat)) : Pr (f_X9_init p0) := by
  unfold f_X9_init
  repeat (first
    | with_reducible exact pr_rt
    | with_reducible exact pr_bad
    | with_reducible exact pr_mGetI _ _ _
    | with_reducible exact pr_mGetJ _ _ _
    | with_reducible exact pr_mGetA _ _ _
    | with_reducible exact pr_mLdI _ _ _
    | with_reducible exact pr_mLdJ _ _
    | with_reducible exact pr_mLdA _ _ _
    | with_reducible exact pr_mLen _
    | with_reducible exact pr_mStrVal _
    | with_reducible exact pr_mStrCod _
    | with_reducible exact pr_mLenS _
    | with_reducible exact pr_mLdS _ _
    | with_reducible exact pr_mPutI _ _ _ _
    | with_reducible exact pr_mPutZ _ _ _ _
    | with_reducible exact pr_mPutJ _ _ _ _
    | with_reducible exact pr_mPutA _ _ _ _
    | with_reducible exact pr_mStI _ _ _
    | with_reducible exact pr_mStB _ _ _
    | with_reducible exact pr_mStJ _ _ _
    | with_reducible exact pr_mStA _ _ _ _
    | with_reducible exact pr_mNew _
    | with_reducible exact pr_mNewA _ _
    | with_reducible exact pr_mNewM _ _
    | with_reducible exact pr_f_X2_init _
    | with_reducible exact pr_f_X1_init _
    | with_reducible exact pr_f_X0_init_l116 _ _
    | with_reducible exact pr_f_X0_init_l86 _ _
    | with_reducible exact pr_f_X0_init _
    | with_reducible exact pr_f_X6_put _ _ _
    | with_reducible exact pr_f_X6_at _ _
    | with_reducible exact pr_f_J0_coder_7d493 _
    | with_reducible exact pr_f_J0_length_8abf5 _
    | with_reducible exact pr_f_J0_isLatin1_aae02 _
    | with_reducible exact pr_f_J3_checkIndex_8e157 _ _
    | with_reducible exact pr_f_J0_checkIndex_df160 _ _
    | with_reducible exact pr_f_J1_charAt_3b067 _ _
    | with_reducible exact pr_f_J0_charAt_5068e _ _
    | with_reducible exact pr_f_X9_withLetter _ _
    | with_reducible exact pr_f_X9_init_l82 _ _ _
    | with_reducible refine pr_bd ?_ (fun _ => ?_)
    | with_reducible refine pr_nm (fun _ => ?_)
    | with_reducible refine pr_ite ?_ ?_
    | with_reducible refine pr_rq ?_
    | with_reducible refine pr_ck ?_
    | with_reducible refine pr_ckS ?_)
theorem pr_f_X5_init (p0 : (Option Nat)) : Pr (f_X5_init p0) := by
  unfold f_X5_init
  repeat (first
    | with_reducible exact pr_rt
    | with_reducible exact pr_bad
    | with_reducible exact pr_mGetI _ _ _
    | with_reducible exact pr_mGetJ _ _ _
    | with_reducible exact pr_mGetA _ _ _
    | with_reducible exact pr_mLdI _ _ _
    | with_reducible exact pr_mLdJ _ _
    | with_reducible exact pr_mLdA _ _ _
    | with_reducible exact pr_mLen _
    | with_reducible exact pr_mStrVal _
    | with_reducible exact pr_mStrCod _
    | with_reducible exact pr_mLenS _
    | with_reducible exact pr_mLdS _ _
    | with_reducible exact pr_mPutI _ _ _ _
    | with_reducible exact pr_mPutZ _ _ _ _
    | with_reducible exact pr_mPutJ _ _ _ _
    | with_reducible exact pr_mPutA _ _ _ _
    | with_reducible exact pr_mStI _ _ _
    | with_reducible exact pr_mStB _ _ _
    | with_reducible exact pr_mStJ _ _ _
    | with_reducible exact pr_mStA _ _ _ _
    | with_reducible exact pr_mNew _
    | with_reducible exact pr_mNewA _ _
    | with_reducible exact pr_mNewM _ _
    | with_reducible exact pr_f_X2_init _
    | with_reducible exact pr_f_X1_init _
    | with_reducible exact pr_f_X0_init_l116 _ _
    | with_reducible exact pr_f_X0_init_l86 _ _
    | with_reducible exact pr_f_X0_init _
    | with_reducible exact pr_f_X6_put _ _ _
    | with_reducible exact pr_f_X6_at _ _
    | with_reducible exact pr_f_J0_coder_7d493 _
    | with_reducible exact pr_f_J0_length_8abf5 _
    | with_reducible exact pr_f_J0_isLatin1_aae02 _
    | with_reducible exact pr_f_J3_checkIndex_8e157 _ _
    | with_reducible exact pr_f_J0_checkIndex_df160 _ _
    | with_reducible exact pr_f_J1_charAt_3b067 _ _
    | with_reducible exact pr_f_J0_charAt_5068e _ _
    | with_reducible exact pr_f_X9_withLetter _ _
    | with_reducible exact pr_f_X9_init_l82 _ _ _
    | with_reducible exact pr_f_X9_init _
    | with_reducible refine pr_bd ?_ (fun _ => ?_)
    | with_reducible refine pr_nm (fun _ => ?_)
    | with_reducible refine pr_ite ?_ ?_
    | with_reducible refine pr_rq ?_
    | with_reducible refine pr_ck ?_
    | with_reducible refine pr_ckS ?_)
theorem pr_f_X3_init (p0 : (Option Nat)) : Pr (f_X3_init p0) := by
  unfold f_X3_init
  repeat (first
    | with_reducible exact pr_rt
    | with_reducible exact pr_bad
    | with_reducible exact pr_mGetI _ _ _
    | with_reducible exact pr_mGetJ _ _ _
    | with_reducible exact pr_mGetA _ _ _
    | with_reducible exact pr_mLdI _ _ _
    | with_reducible exact pr_mLdJ _ _
    | with_reducible exact pr_mLdA _ _ _
    | with_reducible exact pr_mLen _
    | with_reducible exact pr_mStrVal _
    | with_reducible exact pr_mStrCod _
    | with_reducible exact pr_mLenS _
    | with_reducible exact pr_mLdS _ _
    | with_reducible exact pr_mPutI _ _ _ _
    | with_reducible exact pr_mPutZ _ _ _ _
    | with_reducible exact pr_mPutJ _ _ _ _
    | with_reducible exact pr_mPutA _ _ _ _
    | with_reducible exact pr_mStI _ _ _
    | with_reducible exact pr_mStB _ _ _
    | with_reducible exact pr_mStJ _ _ _
    | with_reducible exact pr_mStA _ _ _ _
    | with_reducible exact pr_mNew _
    | with_reducible exact pr_mNewA _ _
    | with_reducible exact pr_mNewM _ _
    | with_reducible exact pr_f_X2_init _
    | with_reducible exact pr_f_X1_init _
    | with_reducible exact pr_f_X0_init_l116 _ _
    | with_reducible exact pr_f_X0_init_l86 _ _
    | with_reducible exact pr_f_X0_init _
    | with_reducible exact pr_f_X6_put _ _ _
    | with_reducible exact pr_f_X6_at _ _
    | with_reducible exact pr_f_J0_coder_7d493 _
    | with_reducible exact pr_f_J0_length_8abf5 _
    | with_reducible exact pr_f_J0_isLatin1_aae02 _
    | with_reducible exact pr_f_J3_checkIndex_8e157 _ _
    | with_reducible exact pr_f_J0_checkIndex_df160 _ _
    | with_reducible exact pr_f_J1_charAt_3b067 _ _
    | with_reducible exact pr_f_J0_charAt_5068e _ _
    | with_reducible exact pr_f_X9_withLetter _ _
    | with_reducible exact pr_f_X9_init_l82 _ _ _
    | with_reducible exact pr_f_X9_init _
    | with_reducible exact pr_f_X5_init _
    | with_reducible refine pr_bd ?_ (fun _ => ?_)
    | with_reducible refine pr_nm (fun _ => ?_)
    | with_reducible refine pr_ite ?_ ?_
    | with_reducible refine pr_rq ?_
    | with_reducible refine pr_ck ?_
    | with_reducible refine pr_ckS ?_)
theorem pr_f_X4_init (p0 : (Option Nat)) : Pr (f_X4_init p0) := by
  unfold f_X4_init
  repeat (first
    | with_reducible exact pr_rt
    | with_reducible exact pr_bad
    | with_reducible exact pr_mGetI _ _ _
    | with_reducible exact pr_mGetJ _ _ _
    | with_reducible exact pr_mGetA _ _ _
    | with_reducible exact pr_mLdI _ _ _
    | with_reducible exact pr_mLdJ _ _
    | with_reducible exact pr_mLdA _ _ _
    | with_reducible exact pr_mLen _
    | with_reducible exact pr_mStrVal _
    | with_reducible exact pr_mStrCod _
    | with_reducible exact pr_mLenS _
    | with_reducible exact pr_mLdS _ _
    | with_reducible exact pr_mPutI _ _ _ _
    | with_reducible exact pr_mPutZ _ _ _ _
    | with_reducible exact pr_mPutJ _ _ _ _
    | with_reducible exact pr_mPutA _ _ _ _
    | with_reducible exact pr_mStI _ _ _
    | with_reducible exact pr_mStB _ _ _
    | with_reducible exact pr_mStJ _ _ _
    | with_reducible exact pr_mStA _ _ _ _
    | with_reducible exact pr_mNew _
    | with_reducible exact pr_mNewA _ _
    | with_reducible exact pr_mNewM _ _
    | with_reducible exact pr_f_X2_init _
    | with_reducible exact pr_f_X1_init _
    | with_reducible exact pr_f_X0_init_l116 _ _
    | with_reducible exact pr_f_X0_init_l86 _ _
    | with_reducible exact pr_f_X0_init _
    | with_reducible exact pr_f_X6_put _ _ _
    | with_reducible exact pr_f_X6_at _ _
    | with_reducible exact pr_f_J0_coder_7d493 _
    | with_reducible exact pr_f_J0_length_8abf5 _
    | with_reducible exact pr_f_J0_isLatin1_aae02 _
    | with_reducible exact pr_f_J3_checkIndex_8e157 _ _
    | with_reducible exact pr_f_J0_checkIndex_df160 _ _
    | with_reducible exact pr_f_J1_charAt_3b067 _ _
    | with_reducible exact pr_f_J0_charAt_5068e _ _
    | with_reducible exact pr_f_X9_withLetter _ _
    | with_reducible exact pr_f_X9_init_l82 _ _ _
    | with_reducible exact pr_f_X9_init _
    | with_reducible exact pr_f_X5_init _
    | with_reducible exact pr_f_X3_init _
    | with_reducible refine pr_bd ?_ (fun _ => ?_)
    | with_reducible refine pr_nm (fun _ => ?_)
    | with_reducible refine pr_ite ?_ ?_
    | with_reducible refine pr_rq ?_
    | with_reducible refine pr_ck ?_
    | with_reducible refine pr_ckS ?_)
theorem pr_f_X7_init (p0 : (Option Nat)) : Pr (f_X7_init p0) := by
  unfold f_X7_init
  repeat (first
    | with_reducible exact pr_rt
    | with_reducible exact pr_bad
    | with_reducible exact pr_mGetI _ _ _
    | with_reducible exact pr_mGetJ _ _ _
    | with_reducible exact pr_mGetA _ _ _
    | with_reducible exact pr_mLdI _ _ _
    | with_reducible exact pr_mLdJ _ _
    | with_reducible exact pr_mLdA _ _ _
    | with_reducible exact pr_mLen _
    | with_reducible exact pr_mStrVal _
    | with_reducible exact pr_mStrCod _
    | with_reducible exact pr_mLenS _
    | with_reducible exact pr_mLdS _ _
    | with_reducible exact pr_mPutI _ _ _ _
    | with_reducible exact pr_mPutZ _ _ _ _
    | with_reducible exact pr_mPutJ _ _ _ _
    | with_reducible exact pr_mPutA _ _ _ _
    | with_reducible exact pr_mStI _ _ _
    | with_reducible exact pr_mStB _ _ _
    | with_reducible exact pr_mStJ _ _ _
    | with_reducible exact pr_mStA _ _ _ _
    | with_reducible exact pr_mNew _
    | with_reducible exact pr_mNewA _ _
    | with_reducible exact pr_mNewM _ _
    | with_reducible exact pr_f_X2_init _
    | with_reducible exact pr_f_X1_init _
    | with_reducible exact pr_f_X0_init_l116 _ _
    | with_reducible exact pr_f_X0_init_l86 _ _
    | with_reducible exact pr_f_X0_init _
    | with_reducible exact pr_f_X6_put _ _ _
    | with_reducible exact pr_f_X6_at _ _
    | with_reducible exact pr_f_J0_coder_7d493 _
    | with_reducible exact pr_f_J0_length_8abf5 _
    | with_reducible exact pr_f_J0_isLatin1_aae02 _
    | with_reducible exact pr_f_J3_checkIndex_8e157 _ _
    | with_reducible exact pr_f_J0_checkIndex_df160 _ _
    | with_reducible exact pr_f_J1_charAt_3b067 _ _
    | with_reducible exact pr_f_J0_charAt_5068e _ _
    | with_reducible exact pr_f_X9_withLetter _ _
    | with_reducible exact pr_f_X9_init_l82 _ _ _
    | with_reducible exact pr_f_X9_init _
    | with_reducible exact pr_f_X5_init _
    | with_reducible exact pr_f_X3_init _
    | with_reducible exact pr_f_X4_init _
    | with_reducible refine pr_bd ?_ (fun _ => ?_)
    | with_reducible refine pr_nm (fun _ => ?_)
    | with_reducible refine pr_ite ?_ ?_
    | with_reducible refine pr_rq ?_
    | with_reducible refine pr_ck ?_
    | with_reducible refine pr_ckS ?_)
theorem pr_f_X10_init (p0 : (Option Nat)) : Pr (f_X10_init p0) := by
  unfold f_X10_init
  repeat (first
    | with_reducible exact pr_rt
    | with_reducible exact pr_bad
    | with_reducible exact pr_mGetI _ _ _
    | with_reducible exact pr_mGetJ _ _ _
    | with_reducible exact pr_mGetA _ _ _
    | with_reducible exact pr_mLdI _ _ _
    | with_reducible exact pr_mLdJ _ _
    | with_reducible exact pr_mLdA _ _ _
    | with_reducible exact pr_mLen _
    | with_reducible exact pr_mStrVal _
    | with_reducible exact pr_mStrCod _
    | with_reducible exact pr_mLenS _
    | with_reducible exact pr_mLdS _ _
    | with_reducible exact pr_mPutI _ _ _ _
    | with_reducible exact pr_mPutZ _ _ _ _
    | with_reducible exact pr_mPutJ _ _ _ _
    | with_reducible exact pr_mPutA _ _ _ _
    | with_reducible exact pr_mStI _ _ _
    | with_reducible exact pr_mStB _ _ _
    | with_reducible exact pr_mStJ _ _ _
    | with_reducible exact pr_mStA _ _ _ _
    | with_reducible exact pr_mNew _
    | with_reducible exact pr_mNewA _ _
    | with_reducible exact pr_mNewM _ _
    | with_reducible exact pr_f_X2_init _
    | with_reducible exact pr_f_X1_init _
    | with_reducible exact pr_f_X0_init_l116 _ _
    | with_reducible exact pr_f_X0_init_l86 _ _
    | with_reducible exact pr_f_X0_init _
    | with_reducible exact pr_f_X6_put _ _ _
    | with_reducible exact pr_f_X6_at _ _
    | with_reducible exact pr_f_J0_coder_7d493 _
    | with_reducible exact pr_f_J0_length_8abf5 _
    | with_reducible exact pr_f_J0_isLatin1_aae02 _
    | with_reducible exact pr_f_J3_checkIndex_8e157 _ _
    | with_reducible exact pr_f_J0_checkIndex_df160 _ _
    | with_reducible exact pr_f_J1_charAt_3b067 _ _
    | with_reducible exact pr_f_J0_charAt_5068e _ _
    | with_reducible exact pr_f_X9_withLetter _ _
    | with_reducible exact pr_f_X9_init_l82 _ _ _
    | with_reducible exact pr_f_X9_init _
    | with_reducible exact pr_f_X5_init _
    | with_reducible exact pr_f_X3_init _
    | with_reducible exact pr_f_X4_init _
    | with_reducible exact pr_f_X7_init _
    | with_reducible refine pr_bd ?_ (fun _ => ?_)
    | with_reducible refine pr_nm (fun _ => ?_)
    | with_reducible refine pr_ite ?_ ?_
    | with_reducible refine pr_rq ?_
    | with_reducible refine pr_ck ?_
    | with_reducible refine pr_ckS ?_)
theorem pr_f_X13_init (p0 : (Option Nat)) : Pr (f_X13_init p0) := by
  unfold f_X13_init
  repeat (first
    | with_reducible exact pr_rt
    | with_reducible exact pr_bad
    | with_reducible exact pr_mGetI _ _ _
    | with_reducible exact pr_mGetJ _ _ _
    | with_reducible exact pr_mGetA _ _ _
    | with_reducible exact pr_mLdI _ _ _
    | with_reducible exact pr_mLdJ _ _
    | with_reducible exact pr_mLdA _ _ _
    | with_reducible exact pr_mLen _
    | with_reducible exact pr_mStrVal _
    | with_reducible exact pr_mStrCod _
    | with_reducible exact pr_mLenS _
    | with_reducible exact pr_mLdS _ _
    | with_reducible exact pr_mPutI _ _ _ _
    | with_reducible exact pr_mPutZ _ _ _ _
    | with_reducible exact pr_mPutJ _ _ _ _
    | with_reducible exact pr_mPutA _ _ _ _
    | with_reducible exact pr_mStI _ _ _
    | with_reducible exact pr_mStB _ _ _
    | with_reducible exact pr_mStJ _ _ _
    | with_reducible exact pr_mStA _ _ _ _
    | with_reducible exact pr_mNew _
    | with_reducible exact pr_mNewA _ _
    | with_reducible exact pr_mNewM _ _
    | with_reducible exact pr_f_X2_init _
    | with_reducible exact pr_f_X1_init _
    | with_reducible exact pr_f_X0_init_l116 _ _
    | with_reducible exact pr_f_X0_init_l86 _ _
    | with_reducible exact pr_f_X0_init _
    | with_reducible exact pr_f_X6_put _ _ _
    | with_reducible exact pr_f_X6_at _ _
    | with_reducible exact pr_f_J0_coder_7d493 _
    | with_reducible exact pr_f_J0_length_8abf5 _
    | with_reducible exact pr_f_J0_isLatin1_aae02 _
    | with_reducible exact pr_f_J3_checkIndex_8e157 _ _
    | with_reducible exact pr_f_J0_checkIndex_df160 _ _
    | with_reducible exact pr_f_J1_charAt_3b067 _ _
    | with_reducible exact pr_f_J0_charAt_5068e _ _
    | with_reducible exact pr_f_X9_withLetter _ _
    | with_reducible exact pr_f_X9_init_l82 _ _ _
    | with_reducible exact pr_f_X9_init _
    | with_reducible exact pr_f_X5_init _
    | with_reducible exact pr_f_X3_init _
    | with_reducible exact pr_f_X4_init _
    | with_reducible exact pr_f_X7_init _
    | with_reducible exact pr_f_X10_init _
    | with_reducible refine pr_bd ?_ (fun _ => ?_)
    | with_reducible refine pr_nm (fun _ => ?_)
    | with_reducible refine pr_ite ?_ ?_
    | with_reducible refine pr_rq ?_
    | with_reducible refine pr_ck ?_
    | with_reducible refine pr_ckS ?_)
