/-! ===== the law's steps ===== -/
theorem wp_ckh {α : Type} {c a : Nat} {F : Mo α} {Q : α → Hp → Prop} {h : Hp} (hk : kd h a = (0, c)) (w : wp F Q h) : wp (mCk c (some a) F) Q h := by
  obtain ⟨r, h', e, q⟩ := w
  exact ⟨r, h', (show mCk c (some a) F h = F h from if_pos hk).trans e, q⟩
theorem ck_of {α : Type} {F : Mo α} {Q : α → Hp → Prop} {h : Hp} (hF : ∃ v G', F = mBd (mPutI 11 0 (some 224) v) G') (w : wp F Q h) : wp (mCk 11 (some 224) F) Q h := by
  obtain ⟨v, G', rfl⟩ := hF
  refine wp_ckh ?_ w
  obtain ⟨r, h', e, q⟩ := w
  unfold mBd at e
  cases hp : mPutI 11 0 (some 224) v h with
  | none => rw [hp] at e; cases e
  | some z =>
    unfold mPutI at hp
    dsimp only at hp
    split at hp
    · rename_i hc; exact hc.1
    · cases hp
theorem lw0 {α : Type} [DecidableEq α] {F : Mo α} {G : Mo α} {P : Hp → Prop} {k : Mo Int32} {Q : Int32 → Hp → Prop} {h : Hp} (hk : kd h 64 = (0, 8))  (hB : Both F (G) P h) (hG : ∃ v G', G = mBd (mPutI 11 0 (some 224) v) G') (hq : ∀ h2, P h2 → wp k Q h2) :
    wp (mBd (mCk 8 (some 64) F) (fun r => mBd (mCk 11 (some 224) (G)) (fun r' => if r = r' then k else mRt (0 : Int32)))) Q h := by
  refine wp_bd (wp_ckh hk (wp_mono hB (fun r h1 w => ?_)))
  exact wp_bd (ck_of hG (wp_mono w (fun r' h2 q => wp_ifp q.1.symm (hq h2 q.2))))
theorem lw1 {α : Type} [DecidableEq α] {F : Mo α} {G : Int32 → Mo α} {P : Hp → Prop} {k : Mo Int32} {Q : Int32 → Hp → Prop} {h : Hp} {xs : Nat → Int32} {L : Nat} {i1 x1 : Int32} (hk : kd h 64 = (0, 8)) (e1 : ∀ h, mLdX xs L i1 h = some (x1, h)) (hB : Both F (G x1) P h) (hG : ∃ v G', G x1 = mBd (mPutI 11 0 (some 224) v) G') (hq : ∀ h2, P h2 → wp k Q h2) :
    wp (mBd (mCk 8 (some 64) F) (fun r => mBd (mLdX xs L i1) (fun a1 => mBd (mCk 11 (some 224) (G a1)) (fun r' => if r = r' then k else mRt (0 : Int32))))) Q h := by
  refine wp_bd (wp_ckh hk (wp_mono hB (fun r h1 w => ?_)))
  exact b_eq (e1 h1) (wp_bd (ck_of hG (wp_mono w (fun r' h2 q => wp_ifp q.1.symm (hq h2 q.2)))))
theorem lw2 {α : Type} [DecidableEq α] {F : Mo α} {G : Int32 → Int32 → Mo α} {P : Hp → Prop} {k : Mo Int32} {Q : Int32 → Hp → Prop} {h : Hp} {xs : Nat → Int32} {L : Nat} {i1 i2 x1 x2 : Int32} (hk : kd h 64 = (0, 8)) (e1 : ∀ h, mLdX xs L i1 h = some (x1, h)) (e2 : ∀ h, mLdX xs L i2 h = some (x2, h)) (hB : Both F (G x1 x2) P h) (hG : ∃ v G', G x1 x2 = mBd (mPutI 11 0 (some 224) v) G') (hq : ∀ h2, P h2 → wp k Q h2) :
    wp (mBd (mCk 8 (some 64) F) (fun r => mBd (mLdX xs L i1) (fun a1 => mBd (mLdX xs L i2) (fun a2 => mBd (mCk 11 (some 224) (G a1 a2)) (fun r' => if r = r' then k else mRt (0 : Int32)))))) Q h := by
  refine wp_bd (wp_ckh hk (wp_mono hB (fun r h1 w => ?_)))
  exact b_eq (e1 h1) (b_eq (e2 h1) (wp_bd (ck_of hG (wp_mono w (fun r' h2 q => wp_ifp q.1.symm (hq h2 q.2))))))
theorem lw3 {α : Type} [DecidableEq α] {F : Mo α} {G : Int32 → Int32 → Int32 → Mo α} {P : Hp → Prop} {k : Mo Int32} {Q : Int32 → Hp → Prop} {h : Hp} {xs : Nat → Int32} {L : Nat} {i1 i2 i3 x1 x2 x3 : Int32} (hk : kd h 64 = (0, 8)) (e1 : ∀ h, mLdX xs L i1 h = some (x1, h)) (e2 : ∀ h, mLdX xs L i2 h = some (x2, h)) (e3 : ∀ h, mLdX xs L i3 h = some (x3, h)) (hB : Both F (G x1 x2 x3) P h) (hG : ∃ v G', G x1 x2 x3 = mBd (mPutI 11 0 (some 224) v) G') (hq : ∀ h2, P h2 → wp k Q h2) :
    wp (mBd (mCk 8 (some 64) F) (fun r => mBd (mLdX xs L i1) (fun a1 => mBd (mLdX xs L i2) (fun a2 => mBd (mLdX xs L i3) (fun a3 => mBd (mCk 11 (some 224) (G a1 a2 a3)) (fun r' => if r = r' then k else mRt (0 : Int32))))))) Q h := by
  refine wp_bd (wp_ckh hk (wp_mono hB (fun r h1 w => ?_)))
  exact b_eq (e1 h1) (b_eq (e2 h1) (b_eq (e3 h1) (wp_bd (ck_of hG (wp_mono w (fun r' h2 q => wp_ifp q.1.symm (hq h2 q.2)))))))
theorem lw4 {α : Type} [DecidableEq α] {F : Mo α} {G : Int32 → Int32 → Int32 → Int32 → Mo α} {P : Hp → Prop} {k : Mo Int32} {Q : Int32 → Hp → Prop} {h : Hp} {xs : Nat → Int32} {L : Nat} {i1 i2 i3 i4 x1 x2 x3 x4 : Int32} (hk : kd h 64 = (0, 8)) (e1 : ∀ h, mLdX xs L i1 h = some (x1, h)) (e2 : ∀ h, mLdX xs L i2 h = some (x2, h)) (e3 : ∀ h, mLdX xs L i3 h = some (x3, h)) (e4 : ∀ h, mLdX xs L i4 h = some (x4, h)) (hB : Both F (G x1 x2 x3 x4) P h) (hG : ∃ v G', G x1 x2 x3 x4 = mBd (mPutI 11 0 (some 224) v) G') (hq : ∀ h2, P h2 → wp k Q h2) :
    wp (mBd (mCk 8 (some 64) F) (fun r => mBd (mLdX xs L i1) (fun a1 => mBd (mLdX xs L i2) (fun a2 => mBd (mLdX xs L i3) (fun a3 => mBd (mLdX xs L i4) (fun a4 => mBd (mCk 11 (some 224) (G a1 a2 a3 a4)) (fun r' => if r = r' then k else mRt (0 : Int32)))))))) Q h := by
  refine wp_bd (wp_ckh hk (wp_mono hB (fun r h1 w => ?_)))
  exact b_eq (e1 h1) (b_eq (e2 h1) (b_eq (e3 h1) (b_eq (e4 h1) (wp_bd (ck_of hG (wp_mono w (fun r' h2 q => wp_ifp q.1.symm (hq h2 q.2))))))))
theorem lw5 {α : Type} [DecidableEq α] {F : Mo α} {G : Int32 → Int32 → Int32 → Int32 → Int32 → Mo α} {P : Hp → Prop} {k : Mo Int32} {Q : Int32 → Hp → Prop} {h : Hp} {xs : Nat → Int32} {L : Nat} {i1 i2 i3 i4 i5 x1 x2 x3 x4 x5 : Int32} (hk : kd h 64 = (0, 8)) (e1 : ∀ h, mLdX xs L i1 h = some (x1, h)) (e2 : ∀ h, mLdX xs L i2 h = some (x2, h)) (e3 : ∀ h, mLdX xs L i3 h = some (x3, h)) (e4 : ∀ h, mLdX xs L i4 h = some (x4, h)) (e5 : ∀ h, mLdX xs L i5 h = some (x5, h)) (hB : Both F (G x1 x2 x3 x4 x5) P h) (hG : ∃ v G', G x1 x2 x3 x4 x5 = mBd (mPutI 11 0 (some 224) v) G') (hq : ∀ h2, P h2 → wp k Q h2) :
    wp (mBd (mCk 8 (some 64) F) (fun r => mBd (mLdX xs L i1) (fun a1 => mBd (mLdX xs L i2) (fun a2 => mBd (mLdX xs L i3) (fun a3 => mBd (mLdX xs L i4) (fun a4 => mBd (mLdX xs L i5) (fun a5 => mBd (mCk 11 (some 224) (G a1 a2 a3 a4 a5)) (fun r' => if r = r' then k else mRt (0 : Int32))))))))) Q h := by
  refine wp_bd (wp_ckh hk (wp_mono hB (fun r h1 w => ?_)))
  exact b_eq (e1 h1) (b_eq (e2 h1) (b_eq (e3 h1) (b_eq (e4 h1) (b_eq (e5 h1) (wp_bd (ck_of hG (wp_mono w (fun r' h2 q => wp_ifp q.1.symm (hq h2 q.2)))))))))
section
variable {β : Type} {kw : Nat → Int64} {K : List (Nat × Nat)} {I I' : Nat → Nat → Int32} {J J' : Nat → Nat → Int64} {A : Nat → Nat → Option Nat} {w : WD}
variable {tr : Nat}
theorem law_led {xs : Nat → Int32} {L : Nat} {i1 i2 x1 x2 : Int32} {k : Mo Int32} {Q : Int32 → Hp → Prop} (hI : Core kwC K I J A w) (hT : Tr I w tr) (e1 : ∀ h, mLdX xs L i1 h = some (x1, h)) (e2 : ∀ h, mLdX xs L i2 h = some (x2, h)) (hq : ∀ h2, PostX K h2 → wp k Q h2) :
    wp (mBd (f_L_led (some 64) x1 x2 (some 235)) (fun r531 => mBd (mLdX xs L i1) (fun r532 => mBd (mLdX xs L i2) (fun r533 => mBd (mCk 11 (some 224) (f_X13_led (some 224) r532 r533)) (fun r534 => mBd (mCk 11 (some 224) (f_X13_thrown (some 224))) (fun r535 => (if r535 = r531 then (if ¬ r531 = 0 then k else mBd (mLdJ (some 235) (0 : Int32)) (fun r536 => (if r536 = (r534.toInt64) then k else mRt (0 : Int32)))) else mRt (0 : Int32)))))))) Q (K, I, J, A) := by
  have h := op_led (a := x1.toInt) (b := x2) hI hT (rng32 x1)
  rw [zi_self] at h
  refine wp_bd (wp_mono h (fun r h1 w1 => b_eq (e1 h1) (b_eq (e2 h1) (wp_bd (ck_of ⟨_, _, by unfold f_X13_led; rfl⟩ (wp_mono w1 (fun r' h2 p => ?_)))))))
  obtain ⟨K', I', J', A', rfl, hK, i0, h01, hj, hc, ht⟩ := p
  have pX : PostX K (K', I', J', A') := by
    rcases hK with hK | hK
    · subst hK
      exact ⟨w, tr, I', J', A', [], by rw [List.append_nil], by rw [List.append_nil]; exact hc, ht, by decide, by decide⟩
    · subst hK
      exact ⟨w, tr, I', J', A', [(20, 6)], rfl, hc, ht, by decide, by decide⟩
  refine b_ck hc.m0.1 ?_
  unfold f_X13_thrown
  refine b_assoc (b_getIv hc.m0.1 i0 (b_rt (wp_ifp rfl ?_)))
  rcases h01 with h0 | h0
  · refine wp_ifn (fun q => q h0) ?_
    rw [z_0]
    refine b_ldJ (hc.sh.2.2.2.2.2.2.2.2.2) (by omega) (by omega) (wp_ifp (hj h0) (hq _ pX))
  · exact wp_ifp (by rw [h0]; decide) (hq _ pX)
end
section
variable {β : Type} {kw : Nat → Int64} {K : List (Nat × Nat)} {I I' : Nat → Nat → Int32} {J J' : Nat → Nat → Int64} {A : Nat → Nat → Option Nat} {w : WD}
theorem law_loop {xs : Nat → Int32} {L : Nat} {M : Nat} (hL : L ≤ 3072) : ∀ d j n0 K I J A w tr, d + j = 520 → d < n0 → Core kwC K I J A w → Tr I w tr → SK K → K.length ≤ 236 + 24 * j → (K.map ksz).sum ≤ M + 1400 * j →
    wp (lq1 (f_L_law_b23 xs L (some 64) (some 224) (some 235)) n0 (zn (6 * j))) (fun r h' => r = 1 ∧ h'.1.length ≤ 236 + 24 * 520 ∧ hsz h' ≤ M + 1400 * 520) (K, I, J, A) := by
  intro d
  induction d with
  | zero =>
    intro j n0 K I J A w tr hdj hn0 hI hT hSK hl hs
    obtain ⟨n1, rfl⟩ : ∃ n1, n0 = n1 + 1 := ⟨n0 - 1, by omega⟩
    show wp (f_L_law_b23 xs L (some 64) (some 224) (some 235) (lq1 _ n1) (zn (6 * j))) _ _
    unfold f_L_law_b23
    refine wp_ifp ?_ (wp_rt ⟨rfl, by show K.length ≤ _; omega, by show (K.map ksz).sum ≤ _; omega⟩)
    show zn L - 6 < zn (6 * j)
    rw [zn_zi L, show (6 : Int32) = zi 6 from by decide, zi_sub, zn_zi (6 * j), zi_lt (by omega) (by omega) (by omega) (by omega)]
    omega
  | succ d ih =>
    intro j n0 K I J A w tr hdj hn0 hI hT hSK hl hs
    obtain ⟨n1, rfl⟩ : ∃ n1, n0 = n1 + 1 := ⟨n0 - 1, by omega⟩
    show wp (f_L_law_b23 xs L (some 64) (some 224) (some 235) (lq1 (f_L_law_b23 xs L (some 64) (some 224) (some 235)) n1) (zn (6 * j))) _ _
    unfold f_L_law_b23
    by_cases hx : L < 6 * j + 6
    · refine wp_ifp ?_ (wp_rt ⟨rfl, by show K.length ≤ _; omega, by show (K.map ksz).sum ≤ _; omega⟩)
      show zn L - 6 < zn (6 * j)
      rw [zn_zi L, show (6 : Int32) = zi 6 from by decide, zi_sub, zn_zi (6 * j), zi_lt (by omega) (by omega) (by omega) (by omega)]
      omega
    have hnx : ¬ zn (6 * j) > zn L - 6 := by
      show ¬ zn L - 6 < zn (6 * j)
      rw [zn_zi L, show (6 : Int32) = zi 6 from by decide, zi_sub, zn_zi (6 * j), zi_lt (by omega) (by omega) (by omega) (by omega)]
      omega
    refine wp_ifn hnx ?_
    have ld : ∀ {i : Int32} (m : Nat), i = zn m → m < L → ∀ h : Hp, mLdX xs L i h = some (xs m, h) := by
      intro i m hi hm h
      subst hi
      unfold mLdX
      rw [if_pos (idx_ok hm (by omega)), zn_clamp (by omega)]
    have ad : ∀ m : Nat, zn (6 * j) + zn m = zn (6 * j + m) := fun m => zn_add _ _
    have hnext : ∀ h2, PostX K h2 → wp (lq1 (f_L_law_b23 xs L (some 64) (some 224) (some 235)) n1 (zn (6 * j) + 6)) (fun r h' => r = 1 ∧ h'.1.length ≤ 236 + 24 * 520 ∧ hsz h' ≤ M + 1400 * 520) h2 := by
      intro h2 p
      obtain ⟨w', tr', I', J', A', X, e, hc, ht, hx1, hx2⟩ := p
      subst e
      rw [show zn (6 * j) + 6 = zn (6 * (j + 1)) from ad 6]
      exact ih (j + 1) n1 (K ++ X) I' J' A' w' tr' (by omega) (by omega) hc ht hSK.ga (by rw [List.length_append]; omega) (by rw [List.map_append, List.sum_append]; omega)
    have e0 := ld (i := zn (6 * j)) (6 * j) rfl (by omega)
    have e1 := ld (i := zn (6 * j) + (1 : Int32)) (6 * j + 1) (ad 1) (by omega)
    have e2 := ld (i := zn (6 * j) + (2 : Int32)) (6 * j + 2) (ad 2) (by omega)
    have e3 := ld (i := zn (6 * j) + (3 : Int32)) (6 * j + 3) (ad 3) (by omega)
    have e4 := ld (i := zn (6 * j) + (4 : Int32)) (6 * j + 4) (ad 4) (by omega)
    have e5 := ld (i := zn (6 * j) + (5 : Int32)) (6 * j + 5) (ad 5) (by omega)
    have k64 : kd (K, I, J, A) 64 = (0, 8) := hI.k64
    refine b_eq (e0 _) ?_
    refine wp_ite (fun _ => ?_) (fun _ => ?_)
    · exact b_eq (e1 _) (b_eq (e2 _) (b_eq (e3 _) (b_eq (e4 _) (b_eq (e5 _) (lw5 k64 e1 e2 e3 e4 e5 (lo_feed hI hT hSK) ⟨_, _, by unfold f_X13_feed; rfl⟩ hnext)))))
    refine wp_ite (fun _ => ?_) (fun _ => ?_)
    · exact b_eq (e1 _) (lw1 k64 e1 (lo_book hI hT hSK) ⟨_, _, by unfold f_X13_book; rfl⟩ hnext)
    refine wp_ite (fun _ => ?_) (fun _ => ?_)
    · exact lw0 k64 (lo_fault hI hT hSK) ⟨_, _, by unfold f_X13_fault; rfl⟩ hnext
    refine wp_ite (fun _ => ?_) (fun _ => ?_)
    · exact lw0 k64 (lo_where hI hT hSK) ⟨_, _, by unfold f_X13_where; rfl⟩ hnext
    refine wp_ite (fun _ => ?_) (fun _ => ?_)
    · exact b_eq (e1 _) (b_eq (e2 _) (lw2 k64 e1 e2 (lo_field hI hT hSK) ⟨_, _, by unfold f_X13_field; rfl⟩ hnext))
    refine wp_ite (fun _ => ?_) (fun _ => ?_)
    · exact b_eq (e1 _) (b_eq (e2 _) (lw2 k64 e1 e2 (lo_log hI hT hSK) ⟨_, _, by unfold f_X13_log; rfl⟩ hnext))
    refine wp_ite (fun _ => ?_) (fun _ => ?_)
    · exact b_eq (e1 _) (b_eq (e2 _) (b_eq (e3 _) (lw3 k64 e1 e2 e3 (lo_character hI hT hSK) ⟨_, _, by unfold f_X13_character; rfl⟩ hnext)))
    refine wp_ite (fun _ => ?_) (fun _ => ?_)
    · exact b_eq (e1 _) (b_eq (e2 _) (b_eq (e3 _) (b_eq (e4 _) (lw4 k64 e1 e2 e3 e4 (lo_sum hI hT hSK) ⟨_, _, by unfold f_X13_sum; rfl⟩ hnext))))
    refine wp_ite (fun _ => ?_) (fun _ => ?_)
    · exact b_eq (e1 _) (b_eq (e2 _) (b_eq (e3 _) (lw3 k64 e1 e2 e3 (lo_norm hI hT hSK) ⟨_, _, by unfold f_X13_norm; rfl⟩ hnext)))
    refine wp_ite (fun _ => ?_) (fun _ => ?_)
    · exact b_eq (e1 _) (b_eq (e2 _) (b_eq (e3 _) (b_eq (e4 _) (lw4 k64 e1 e2 e3 e4 (lo_relation hI hT hSK) ⟨_, _, by unfold f_X13_relation; rfl⟩ hnext))))
    refine wp_ite (fun _ => ?_) (fun _ => ?_)
    · exact b_eq (e1 _) (b_eq (e2 _) (b_eq (e3 _) (b_eq (e4 _) (lw4 k64 e1 e2 e3 e4 (lo_part hI hT hSK) ⟨_, _, by unfold f_X13_part; rfl⟩ hnext))))
    refine wp_ite (fun _ => ?_) (fun _ => ?_)
    · exact b_eq (e1 _) (b_eq (e2 _) (b_eq (e3 _) (b_eq (e4 _) (lw4 k64 e1 e2 e3 e4 (lo_law hI hT hSK) ⟨_, _, by unfold f_X13_law; rfl⟩ hnext))))
    refine wp_ite (fun _ => ?_) (fun _ => ?_)
    · exact b_eq (e1 _) (b_eq (e2 _) (b_eq (e3 _) (lw3 k64 e1 e2 e3 (lo_parts hI hT hSK) ⟨_, _, by unfold f_X13_parts; rfl⟩ hnext)))
    refine wp_ite (fun _ => ?_) (fun _ => ?_)
    · exact b_eq (e1 _) (b_eq (e2 _) (lw2 k64 e1 e2 (lo_let hI hT hSK) ⟨_, _, by unfold f_X13_let; rfl⟩ hnext))
    refine wp_ite (fun _ => ?_) (fun _ => ?_)
    · exact b_eq (e1 _) (lw1 k64 e1 (lo_letField hI hT hSK) ⟨_, _, by unfold f_X13_letField; rfl⟩ hnext)
    refine wp_ite (fun _ => ?_) (fun _ => ?_)
    · exact b_eq (e1 _) (b_eq (e2 _) (lw2 k64 e1 e2 (lo_letPart hI hT hSK) ⟨_, _, by unfold f_X13_letPart; rfl⟩ hnext))
    refine wp_ite (fun _ => ?_) (fun _ => ?_)
    · exact b_eq (e1 _) (lw1 k64 e1 (lo_whole hI hT hSK) ⟨_, _, by unfold f_X13_whole; rfl⟩ hnext)
    refine wp_ite (fun _ => ?_) (fun _ => ?_)
    · exact b_eq (e1 _) (lw1 k64 e1 (lo_count hI hT hSK) ⟨_, _, by unfold f_X13_count; rfl⟩ hnext)
    refine wp_ite (fun _ => ?_) (fun _ => ?_)
    · exact b_eq (e1 _) (b_eq (e2 _) (lw2 k64 e1 e2 (lo_countOf hI hT hSK) ⟨_, _, by unfold f_X13_countOf; rfl⟩ hnext))
    refine wp_ite (fun _ => ?_) (fun _ => ?_)
    · exact b_eq (e1 _) (b_eq (e2 _) (lw2 k64 e1 e2 (lo_curve hI hT hSK) ⟨_, _, by unfold f_X13_curve; rfl⟩ hnext))
    refine wp_ite (fun _ => ?_) (fun _ => ?_)
    · exact b_eq (e1 _) (b_eq (e2 _) (lw2 k64 e1 e2 (lo_sign hI hT hSK) ⟨_, _, by unfold f_X13_sign; rfl⟩ hnext))
    refine wp_ite (fun _ => ?_) (fun _ => ?_)
    · exact b_eq (e1 _) (b_eq (e2 _) (lw2 k64 e1 e2 (lo_both hI hT hSK) ⟨_, _, by unfold f_X13_both; rfl⟩ hnext))
    refine wp_ite (fun _ => ?_) (fun _ => ?_)
    · exact b_eq (e1 _) (b_eq (e2 _) (lw2 k64 e1 e2 (lo_form hI hT hSK) ⟨_, _, by unfold f_X13_form; rfl⟩ hnext))
    refine wp_ite (fun _ => ?_) (fun _ => ?_)
    · exact b_eq (e1 _) (b_eq (e2 _) (b_eq (e3 _) (lw3 k64 e1 e2 e3 (lo_power hI hT hSK) ⟨_, _, by unfold f_X13_power; rfl⟩ hnext)))
    refine wp_ite (fun _ => ?_) (fun _ => ?_)
    · exact b_eq (e1 _) (lw1 k64 e1 (lo_classSums hI hT hSK) ⟨_, _, by unfold f_X13_classSums; rfl⟩ hnext)
    refine wp_ite (fun _ => ?_) (fun _ => ?_)
    · exact b_eq (e1 _) (lw1 k64 e1 (lo_classForms hI hT hSK) ⟨_, _, by unfold f_X13_classForms; rfl⟩ hnext)
    refine wp_ite (fun _ => ?_) (fun _ => ?_)
    · exact b_eq (e1 _) (b_eq (e2 _) (b_eq (e3 _) (lw3 k64 e1 e2 e3 (lo_meets hI hT hSK) ⟨_, _, by unfold f_X13_meets; rfl⟩ hnext)))
    refine wp_ite (fun _ => ?_) (fun _ => ?_)
    · exact b_eq (e1 _) (lw1 k64 e1 (lo_even hI hT hSK) ⟨_, _, by unfold f_X13_even; rfl⟩ hnext)
    refine wp_ite (fun _ => ?_) (fun _ => ?_)
    · exact b_eq (e1 _) (b_eq (e2 _) (b_eq (e3 _) (lw3 k64 e1 e2 e3 (lo_echo hI hT hSK) ⟨_, _, by unfold f_X13_echo; rfl⟩ hnext)))
    refine wp_ite (fun _ => ?_) (fun _ => ?_)
    · exact b_eq (e1 _) (b_eq (e2 _) (lw2 k64 e1 e2 (lo_noise hI hT hSK) ⟨_, _, by unfold f_X13_noise; rfl⟩ hnext))
    refine wp_ite (fun _ => ?_) (fun _ => ?_)
    · exact b_eq (e1 _) (lw1 k64 e1 (lo_lowest hI hT hSK) ⟨_, _, by unfold f_X13_lowest; rfl⟩ hnext)
    refine wp_ite (fun _ => ?_) (fun _ => ?_)
    · exact b_eq (e1 _) (lw1 k64 e1 (lo_choose hI hT hSK) ⟨_, _, by unfold f_X13_choose; rfl⟩ hnext)
    refine wp_ite (fun _ => ?_) (fun _ => ?_)
    · exact b_eq (e1 _) (b_eq (e2 _) (lw2 k64 e1 e2 (lo_register hI hT hSK) ⟨_, _, by unfold f_X13_register; rfl⟩ hnext))
    refine wp_ite (fun _ => ?_) (fun _ => ?_)
    · exact b_eq (e1 _) (b_eq (e2 _) (lw2 k64 e1 e2 (lo_take hI hT hSK) ⟨_, _, by unfold f_X13_take; rfl⟩ hnext))
    refine wp_ite (fun _ => ?_) (fun _ => ?_)
    · exact b_eq (e1 _) (b_eq (e2 _) (b_eq (e3 _) (lw3 k64 e1 e2 e3 (lo_jacobi hI hT hSK) ⟨_, _, by unfold f_X13_jacobi; rfl⟩ hnext)))
    refine wp_ite (fun _ => ?_) (fun _ => ?_)
    · exact b_eq (e1 _) (b_eq (e2 _) (b_eq (e3 _) (lw3 k64 e1 e2 e3 (lo_add hI hT hSK) ⟨_, _, by unfold f_X13_add; rfl⟩ hnext)))
    refine wp_ite (fun _ => ?_) (fun _ => ?_)
    · exact b_eq (e1 _) (b_eq (e2 _) (lw2 k64 e1 e2 (lo_times hI hT hSK) ⟨_, _, by unfold f_X13_times; rfl⟩ hnext))
    refine wp_ite (fun _ => ?_) (fun _ => ?_)
    · exact b_eq (e1 _) (b_eq (e2 _) (lw2 k64 e1 e2 (lo_turn hI hT hSK) ⟨_, _, by unfold f_X13_turn; rfl⟩ hnext))
    refine wp_ite (fun _ => ?_) (fun _ => ?_)
    · exact b_eq (e1 _) (lw1 k64 e1 (lo_size hI hT hSK) ⟨_, _, by unfold f_X13_size; rfl⟩ hnext)
    refine wp_ite (fun _ => ?_) (fun _ => ?_)
    · exact lw0 k64 (lo_undo hI hT hSK) ⟨_, _, by unfold f_X13_undo; rfl⟩ hnext
    refine wp_ite (fun _ => ?_) (fun _ => ?_)
    · exact lw0 k64 (lo_redo hI hT hSK) ⟨_, _, by unfold f_X13_redo; rfl⟩ hnext
    refine wp_ite (fun _ => ?_) (fun _ => ?_)
    · exact lw0 k64 (lo_image hI hT hSK) ⟨_, _, by unfold f_X13_image; rfl⟩ hnext
    refine wp_ite (fun _ => ?_) (fun _ => ?_)
    · exact b_eq (e1 _) (lw1 k64 e1 (lo_restore hI hT hSK) ⟨_, _, by unfold f_X13_restore; rfl⟩ hnext)
    refine wp_ite (fun _ => ?_) (fun _ => ?_)
    · refine b_eq (e1 _) (b_eq (e2 _) ?_)
      exact law_led hI hT e1 e2 (fun h2 p => hnext h2 p)
    refine wp_ite (fun _ => ?_) (fun _ => ?_)
    · exact b_eq (e1 _) (lw1 k64 e1 (lo_told hI hT hSK) ⟨_, _, by unfold f_X13_told; rfl⟩ hnext)
    refine wp_ite (fun _ => ?_) (fun _ => ?_)
    · exact lw0 k64 (lo_trouble hI hT hSK) ⟨_, _, by unfold f_X13_trouble; rfl⟩ hnext
    exact hnext _ ⟨w, tr, I, J, A, [], by rw [List.append_nil], by rw [List.append_nil]; exact hI, hT, by decide, by decide⟩
end
