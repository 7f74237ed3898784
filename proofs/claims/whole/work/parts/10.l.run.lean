/-! ===== the law's run ===== -/
theorem mBd_assoc {α β γ : Type} (F : Mo α) (G : α → Mo β) (P : β → Mo γ) : mBd (mBd F G) P = mBd F (fun x => mBd (G x) P) := by
  funext h
  unfold mBd
  cases F h with
  | none => rfl
  | some q => rfl
theorem mBd_rt {α β : Type} (x : α) (G : α → Mo β) : mBd (mRt x) G = G x := rfl
theorem law_start (xs : Nat → Int32) (L : Nat) : f_L_law xs L = mBd mStart (fun q => f_L_law_l23 xs L q.1 q.2.1 q.2.2 0) := by
  unfold f_L_law mStart
  generalize f_L_law_l23 xs L = Fl
  rw [mBd_assoc]
  refine congrArg (mBd (mNew 8)) (funext fun r1 => ?_)
  rw [mBd_assoc]
  refine congrArg (mBd (mCk 8 r1 (f_X10_init r1))) (funext fun _ => ?_)
  rw [mBd_assoc]
  refine congrArg (mBd (mNew 11)) (funext fun r2 => ?_)
  rw [mBd_assoc]
  refine congrArg (mBd (mCk 11 r2 (f_X13_init r2))) (funext fun _ => ?_)
  rw [mBd_assoc]
  exact congrArg (mBd (mNewA 2 (1 : Int32))) (funext fun r3 => (mBd_rt _ _).symm)
theorem run0_e : mStart h00 = some ((some 64, some 224, some 235), h1) := by
  have e := run0_r
  unfold run0 at e
  cases hm : mStart h00 with
  | none => rw [hm] at e; cases e
  | some q =>
    rw [hm] at e
    have e1 : q.1 = (some 64, some 224, some 235) := by simpa using e
    have e2 : h1 = q.2 := by
      unfold h1 run0
      rw [hm]; rfl
    rw [e2, ← e1]
theorem pr_start : Pr mStart := by
  unfold mStart
  exact pr_bd (pr_mNew _) (fun _ => pr_bd (pr_ck (pr_f_X10_init _)) (fun _ => pr_bd (pr_mNew _) (fun _ => pr_bd (pr_ck (pr_f_X13_init _)) (fun _ => pr_bd (pr_mNewA _ _) (fun _ => pr_rt)))))
theorem h1_OT : OT h1.1 h1.2.1 := by
  have h := (pr_start _ _ _ run0_e (by decide +kernel)).1
  refine ⟨by decide +kernel, by decide +kernel, fun k => ?_, fun k => ?_⟩
  · rw [h 0 (by omega)]; rfl
  · rw [h 1 (by omega)]; rfl
def w00 : WD := (172, B0, (0, fun _ _ => 0), (0, fun _ => (0, fun _ _ => 0)), (0, fun _ => (0, fun _ _ => 0)), (0, fun _ => (0, fun _ _ => 0)), (0, fun _ => 0), ((0 : Int), (-1 : Int)))
theorem core0 : Core kwC h1.1 h1.2.1 h1.2.2.1 h1.2.2.2 w00 := by
  have b1 := h1_CSh
  have b2 := h1_MS
  have b3 := h1_OT
  have b4 := h1_I
  have b5 := h1_J
  generalize h1 = hx at b1 b2 b3 b4 b5 ⊢
  obtain ⟨K, I, J, A⟩ := hx
  dsimp only at b1 b2 b3 b4 b5 ⊢
  obtain ⟨⟨a7, a8, a9⟩, ⟨g2, g3, g4, g5⟩, ⟨m28, m29, m30⟩, ⟨t5, t8⟩, ⟨e9, e15, e10⟩, _, hA⟩ := b4
  obtain ⟨j1, j2, j3⟩ := b5
  unfold Core w00
  dsimp only
  refine ⟨⟨b1, b2, b3, B0_ok⟩, ⟨⟨⟨a7, a8, a9⟩, fun f hf => absurd hf (Nat.not_lt_zero f), fun f hf => absurd hf (Nat.not_lt_zero f), fun f hf => absurd hf (Nat.not_lt_zero f)⟩, Or.inl ⟨hA, rfl, rfl, rfl⟩⟩, ⟨⟨0, by omega, ⟨g2, g3, g4, g5⟩, ⟨by omega, by omega⟩, ⟨?_, fun r hr i hi => ?_⟩, fun j hj => absurd hj (Nat.not_lt_zero j), fun j hj => absurd hj (Nat.not_lt_zero j), fun j hj => absurd hj (Nat.not_lt_zero j)⟩, ⟨⟨m28, m29, m30⟩, ⟨by omega, by omega⟩, ⟨?_, fun r hr i hi => ?_⟩, fun j hj => absurd hj (Nat.not_lt_zero j), fun j hj => absurd hj (Nat.not_lt_zero j), fun j hj => absurd hj (Nat.not_lt_zero j)⟩, ⟨Or.inl rfl, fun _ _ _ => rfl⟩, fun j hj => absurd hj (Nat.not_lt_zero j), fun j hj => absurd hj (Nat.not_lt_zero j), fun j hj => absurd hj (Nat.not_lt_zero j), fun _ => rfl⟩, ⟨by omega, t5, t8, fun j hj => absurd hj (Nat.not_lt_zero j)⟩, ⟨e9, e15, e10, j3⟩⟩
  · exact j1 0 (by omega)
  · exact j1 (0 * 41 + 1 + r * 10 + i) (by omega)
  · exact j2 0 (by omega)
  · exact j2 (0 * 49 + 1 + r * 12 + i) (by omega)
theorem tr0 : Tr h1.2.1 w00 0 := by
  have b4 := h1_I
  generalize h1 = hx at b4 ⊢
  obtain ⟨K, I, J, A⟩ := hx
  dsimp only at b4 ⊢
  obtain ⟨_, _, _, _, _, ⟨x1, x2, x3⟩, _⟩ := b4
  exact ⟨by decide, x1, x2, by rw [if_neg (by decide)]; exact x3⟩
theorem law_run {xs : Nat → Int32} {L : Nat} (hL : L ≤ 3072) : ∃ h', f_L_law xs L h00 = some (1, h') ∧ h'.1.length ≤ 64 + 601024 ∧ hsz h' ≤ hsz h00 + 7293034 := by
  have hl := h1_len
  have hs := h1_sz
  have hK := h1_SK
  have hc := core0
  have ht := tr0
  have hr := run0_e
  generalize h1 = hx at hl hs hK hc ht hr
  obtain ⟨K, I, J, A⟩ := hx
  dsimp only at hl hK hc ht
  have hs2 : (K.map ksz).sum ≤ hsz h00 + 30000 := hs
  generalize hsz h00 = s0 at hs2 ⊢
  have hw : wp (f_L_law xs L) (fun r h' => r = 1 ∧ h'.1.length ≤ 236 + 24 * 520 ∧ hsz h' ≤ (K.map ksz).sum + 1400 * 520) h00 := by
    rw [law_start]
    refine b_eq hr ?_
    exact law_loop hL 520 0 fuel K I J A w00 0 (by omega) (by unfold fuel; omega) hc ht hK (by omega) (by omega)
  obtain ⟨r, h', e, q1, q2, q3⟩ := hw
  subst q1
  exact ⟨h', e, by omega, by omega⟩
