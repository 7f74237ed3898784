/-! ===== the reference's reading: its first words ===== -/
/-- the reference is done for: fault k at place p -/
def over (I : Nat → Nat → Int32) (k p : Nat) : Nat → Nat → Int32 := st2 (st2 (st2 I 224 15 (zn k)) 224 16 (zn p)) 224 11 5
section
variable {β : Type} {kw : Nat → Int64} {K : List (Nat × Nat)} {I I' : Nat → Nat → Int32} {J J' : Nat → Nat → Int64} {A : Nat → Nat → Option Nat} {w : WD}
variable {b : Nat → Nat} {n T t : Nat}
theorem over_11 {k p : Nat} : over I k p 224 11 = 5 := st2_at
theorem over_15 {k p : Nat} : over I k p 224 15 = zn k := by unfold over; rw [st2_nk (by decide), st2_nk (by decide), st2_at]
theorem over_16 {k p : Nat} : over I k p 224 16 = zn p := by unfold over; rw [st2_nk (by decide), st2_at]
theorem over_ne {k p x : Nat} (h : x ≠ 224) : over I k p x = I x := by unfold over; rw [st2_nb h, st2_nb h, st2_nb h]
theorem over_j {k p j : Nat} (h : j ≠ 11 ∧ j ≠ 15 ∧ j ≠ 16) : over I k p 224 j = I 224 j := by unfold over; rw [st2_nk h.1, st2_nk h.2.2, st2_nk h.2.1]
/-! done for: nothing more happens -/
theorem o_goesOn (hM : MS K A 224) (h : I 224 11 = 5) : f_X13_goesOn (some 224) (K, I, J, A) = some ((), (K, I, J, A)) := by
  apply wp_get
  unfold f_X13_goesOn
  exact b_getIv hM.1 h (wp_ifn (by decide) (wp_rt ⟨rfl, rfl⟩))
theorem o_wrongThere {k p : Int32} (hM : MS K A 224) (h : I 224 11 = 5) : f_X13_wrongThere (some 224) k p (K, I, J, A) = some ((), (K, I, J, A)) := by
  apply wp_get
  unfold f_X13_wrongThere
  exact b_getIv hM.1 h (wp_ifn (by decide) (wp_rt ⟨rfl, rfl⟩))
theorem o_wrong {k : Int32} (hM : MS K A 224) (h : I 224 11 = 5) : f_X13_wrong (some 224) k (K, I, J, A) = some ((), (K, I, J, A)) := by
  apply wp_get
  unfold f_X13_wrong
  exact b_getI hM.1 (b_ck hM.1 (b_eq (o_wrongThere hM h) (wp_rt ⟨rfl, rfl⟩)))
theorem o_isWord {o : Option Nat} (hM : MS K A 224) (h : I 224 11 = 5) : f_X13_isWord (some 224) o (K, I, J, A) = some (0, (K, I, J, A)) := by
  apply wp_get
  unfold f_X13_isWord
  exact b_getIv hM.1 h (wp_ifp (by decide) (wp_rt ⟨rfl, rfl⟩))
theorem o_isSign {c : Int32} (hM : MS K A 224) (h : I 224 11 = 5) : f_X13_isSign (some 224) c (K, I, J, A) = some (0, (K, I, J, A)) := by
  apply wp_get
  unfold f_X13_isSign
  exact b_getIv hM.1 h (wp_ifp (by decide) (wp_rt ⟨rfl, rfl⟩))
theorem o_isName (hM : MS K A 224) (h : I 224 11 = 5) : f_X13_isName (some 224) (K, I, J, A) = some (0, (K, I, J, A)) := by
  apply wp_get
  unfold f_X13_isName
  exact b_getIv hM.1 h (wp_ifp (by decide) (wp_rt ⟨rfl, rfl⟩))
theorem o_eatsSign {c : Int32} (hM : MS K A 224) (h : I 224 11 = 5) : f_X13_eatsSign (some 224) c (K, I, J, A) = some (0, (K, I, J, A)) := by
  apply wp_get
  unfold f_X13_eatsSign
  exact b_ck hM.1 (b_eq (o_isSign hM h) (wp_ifp rfl (wp_rq (by decide) (wp_rt ⟨rfl, rfl⟩))))
theorem o_needs {o : Option Nat} (hM : MS K A 224) (h : I 224 11 = 5) : f_X13_needs (some 224) o (K, I, J, A) = some ((), (K, I, J, A)) := by
  apply wp_get
  unfold f_X13_needs
  exact b_ck hM.1 (b_eq (o_isWord hM h) (wp_ifn (by decide) (b_ck hM.1 (b_eq (o_wrong hM h) (b_ck hM.1 (b_eq (o_goesOn hM h) (wp_rt ⟨rfl, rfl⟩)))))))
theorem o_needsSign {c : Int32} (hM : MS K A 224) (h : I 224 11 = 5) : f_X13_needsSign (some 224) c (K, I, J, A) = some ((), (K, I, J, A)) := by
  apply wp_get
  unfold f_X13_needsSign
  exact b_ck hM.1 (b_eq (o_isSign hM h) (wp_ifn (by decide) (b_ck hM.1 (b_eq (o_wrong hM h) (b_ck hM.1 (b_eq (o_goesOn hM h) (wp_rt ⟨rfl, rfl⟩)))))))
theorem o_bounded {lo hi : Int32} (hM : MS K A 224) (h : I 224 11 = 5) : f_X13_bounded (some 224) lo hi (K, I, J, A) = some (lo, (K, I, J, A)) := by
  apply wp_get
  unfold f_X13_bounded f_X13_bounded_j33
  exact b_getIv hM.1 h (wp_ifn (by decide) (b_ck hM.1 (b_eq (o_wrong hM h) (b_getIv hM.1 h (wp_ifn (by decide) (wp_rt ⟨rfl, rfl⟩))))))
theorem o_readWhole {lo hi : Int32} (hM : MS K A 224) (h : I 224 11 = 5) : f_X13_readWhole (some 224) lo hi (K, I, J, A) = some (lo, (K, I, J, A)) := by
  apply wp_get
  unfold f_X13_readWhole
  exact b_ck hM.1 (b_eq (o_bounded hM h) (b_ck hM.1 (b_eq (o_goesOn hM h) (wp_rt ⟨rfl, rfl⟩))))
/-! at a token -/
theorem t_wrong {k : Nat} (hM : MS K A 224) (hR : RT I J kwC b n t) (h5 : ¬ I 224 11 = 5) : f_X13_wrong (some 224) (zn k) (K, I, J, A) = some ((), (K, over I k (ps b n t), J, A)) := by
  apply wp_get'
  unfold f_X13_wrong f_X13_wrongThere
  refine b_getIv hM.1 hR.1 (b_ck hM.1 (b_assoc (b_getI hM.1 (b_ite (wp_ifp h5 (b_assoc (b_putI hM.1 (by decide) (b_assoc (b_putI hM.1 (by decide) (b_assoc (b_putI hM.1 (by decide) (b_rt (wp_rt ⟨rfl, rfl⟩)))))))))))))
theorem t_isName (hM : MS K A 224) (hS : SK K) (hR : RT I J kwC b n t) : f_X13_isName (some 224) (K, I, J, A) = some (b01 (kd' kwC b n t == 5), (K, I, J, A)) := by
  apply wp_get
  unfold f_X13_isName
  have W : ∀ i, i < 13 → f_X13_isWord (some 224) (some (6 + i)) (K, I, J, A) = some (b01 (isW b n t i), (K, I, J, A)) := fun i hi => t_isWord hM hS hi hR
  have hR' := hR
  obtain ⟨_, h, _⟩ := hR'
  have no : I 224 11 ≠ 2 → (kd' kwC b n t == 5) = false → ∀ F : Mo Int32, wp (mBd (mGetI 11 11 (some 224)) fun r1 => if ¬ r1 = 2 then mRt (0 : Int32) else F) (fun r h' => r = b01 (kd' kwC b n t == 5) ∧ h' = (K, I, J, A)) (K, I, J, A) := by
    intro h1 h2 F
    exact b_getI hM.1 (wp_ifp h1 (wp_rt ⟨by rw [h2]; rfl, rfl⟩))
  have isW5 : ∀ i, isW b n t i = true → (kd' kwC b n t == 5) = false := by
    intro i hi
    unfold isW at hi
    simp only [Bool.and_eq_true, beq_iff_eq] at hi
    rw [hi.1]; rfl
  have st : ∀ (i : Nat) (F : Mo Int32), i < 13 → (isW b n t i = false → wp F (fun r h' => r = b01 (kd' kwC b n t == 5) ∧ h' = (K, I, J, A)) (K, I, J, A)) → wp (mBd (mCk 11 (some 224) (f_X13_isWord (some 224) (some (6 + i)))) fun r2 => if ¬ r2 = 0 then mRt (0 : Int32) else F) (fun r h' => r = b01 (kd' kwC b n t == 5) ∧ h' = (K, I, J, A)) (K, I, J, A) := by
    intro i F hi w
    refine b_ck hM.1 (b_eq (W i hi) ?_)
    cases h0 : isW b n t i with
    | false => exact wp_ifn (by decide) (w h0)
    | true => exact wp_ifp (by decide) (wp_rt ⟨by rw [isW5 i h0]; rfl, rfl⟩)
  have st' : ∀ (i : Nat) (F : Mo Int32), i < 13 → (isW b n t i = false → wp F (fun r h' => r = b01 (kd' kwC b n t == 5) ∧ h' = (K, I, J, A)) (K, I, J, A)) → wp (mBd (mCk 11 (some 224) (f_X13_isWord (some 224) (some (6 + i)))) fun r2 => if r2 = 0 then F else mRt (0 : Int32)) (fun r h' => r = b01 (kd' kwC b n t == 5) ∧ h' = (K, I, J, A)) (K, I, J, A) := by
    intro i F hi w
    refine b_ck hM.1 (b_eq (W i hi) ?_)
    cases h0 : isW b n t i with
    | false => exact wp_ifp (by decide) (w h0)
    | true => exact wp_ifn (by decide) (wp_rt ⟨by rw [isW5 i h0]; rfl, rfl⟩)
  have all : I 224 11 = 2 → ((∀ i, i < 13 → isW b n t i = false) → (kd' kwC b n t == 5) = true) → wp (mBd (mGetI 11 11 (some 224)) fun r1 => if ¬ r1 = 2 then mRt (0 : Int32) else _) (fun r h' => r = b01 (kd' kwC b n t == 5) ∧ h' = (K, I, J, A)) (K, I, J, A) := fun h1 h2 =>
    b_getIv hM.1 h1 (wp_ifn (by decide) (st 0 _ (by decide) fun w0 => st 1 _ (by decide) fun w1 => st 2 _ (by decide) fun w2 => st 3 _ (by decide) fun w3 => st 4 _ (by decide) fun w4 => st 5 _ (by decide) fun w5 => st' 6 _ (by decide) fun w6 => st 7 _ (by decide) fun w7 => st 8 _ (by decide) fun w8 => st 9 _ (by decide) fun w9 => st 10 _ (by decide) fun w10 => st 11 _ (by decide) fun w11 => st 12 (mRt 1) (by decide) fun w12 => wp_rt ⟨by
      rw [h2 (fun i hi => by
        rcases (show i = 0 ∨ i = 1 ∨ i = 2 ∨ i = 3 ∨ i = 4 ∨ i = 5 ∨ i = 6 ∨ i = 7 ∨ i = 8 ∨ i = 9 ∨ i = 10 ∨ i = 11 ∨ i = 12 by omega) with h | h | h | h | h | h | h | h | h | h | h | h | h <;> subst h <;> assumption)]
      rfl, rfl⟩))
  rcases h with ⟨h1, h2⟩ | ⟨h1, h2⟩ | ⟨h1, h2, _⟩ | ⟨h1, h2, _⟩ | ⟨h1, h2, j, h3, h4⟩ | ⟨h1, h2, h3, h4⟩
  · exact no (by rw [h2]; decide) (by rw [h1]; rfl) _
  · exact no (by rw [h2]; decide) (by rw [h1]; rfl) _
  · exact no (by rw [h2]; decide) (by rw [h1]; rfl) _
  · exact no (by rw [h2]; decide) (by rw [h1]; rfl) _
  · exact all h2 (fun hw => by
      have := hw j (kpt_lt h3)
      unfold isW at this
      rw [h1, h4] at this
      simp at this)
  · exact all h2 (fun _ => by rw [h1]; rfl)
end
