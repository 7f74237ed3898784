/-! ===== every call in one form ===== -/
theorem Both.mono {α : Type} {F G : Mo α} {P P' : Hp → Prop} {h : Hp} (b : Both F G P h) (m : ∀ h, P h → P' h) : Both F G P' h := wp_mono b (fun r h1 w => wp_mono w (fun r' h2 q => ⟨q.1, m h2 q.2⟩))
theorem rng32 (x : Int32) : -2147483648 ≤ x.toInt ∧ x.toInt < 2147483648 := ⟨Int32.le_toInt x, Int32.toInt_lt x⟩
section
variable {β : Type} {kw : Nat → Int64} {K : List (Nat × Nat)} {I I' : Nat → Nat → Int32} {J J' : Nat → Nat → Int64} {A : Nat → Nat → Option Nat} {w : WD}
variable {tr : Nat}
theorem PostX.p {h : Hp} (p : Post kwC K A w h) : PostX K h := by
  obtain ⟨I', J', tr, e, hc, ht⟩ := p
  exact ⟨w, tr, I', J', A, [], by rw [List.append_nil]; exact e, by rw [List.append_nil]; exact hc, ht, by decide, by decide⟩
theorem PostX.e {h : Hp} (p : PostE kwC K A h) : PostX K h := by
  obtain ⟨w', q⟩ := p
  exact PostX.p q
theorem PostX.s {w' : WD} {h : Hp} (p : PostS kwC K A w' tr h) : PostX K h := by
  obtain ⟨I', J', e, hc, ht⟩ := p
  exact ⟨w', tr, I', J', A, [], by rw [List.append_nil]; exact e, by rw [List.append_nil]; exact hc, ht, by decide, by decide⟩
theorem lo_feed (hI : Core kwC K I J A w) (hT : Tr I w tr) (hSK : SK K) {x y z u v : Int32} : Both (f_X10_feed (some 64) x y z u v) (f_X13_feed (some 224) x y z u v) (PostX K) (K, I, J, A) := by
  exact (op_feed (p1 := x) (p2 := y) (p3 := z) (p4 := u) (p5 := v) hI hT).mono (fun h p => PostX.s p.choose_spec)
theorem lo_book (hI : Core kwC K I J A w) (hT : Tr I w tr) (hSK : SK K) {x : Int32} : Both (f_X10_book (some 64) x) (f_X13_book (some 224) x) (PostX K) (K, I, J, A) := by
  have h := op_book (a := x.toInt) hI hSK (rng32 x)
  rw [zi_self] at h
  exact h
theorem lo_fault (hI : Core kwC K I J A w) (hT : Tr I w tr) (hSK : SK K) : Both (f_X10_fault (some 64)) (f_X13_fault (some 224)) (PostX K) (K, I, J, A) := by
  have h := op_fault  hI hT 
  exact h.mono (fun h p => PostX.s p)
theorem lo_where (hI : Core kwC K I J A w) (hT : Tr I w tr) (hSK : SK K) : Both (f_X10_where (some 64)) (f_X13_where (some 224)) (PostX K) (K, I, J, A) := by
  have h := op_where  hI hT 
  exact h.mono (fun h p => PostX.s p)
theorem lo_field (hI : Core kwC K I J A w) (hT : Tr I w tr) (hSK : SK K) {x y : Int32} : Both (f_X10_field (some 64) x y) (f_X13_field (some 224) x y) (PostX K) (K, I, J, A) := by
  have h := op_field (a := x.toInt) (b := y.toInt) hI (rng32 x) (rng32 y)
  rw [zi_self, zi_self] at h
  exact h.mono (fun h p => PostX.p p)
theorem lo_log (hI : Core kwC K I J A w) (hT : Tr I w tr) (hSK : SK K) {x y : Int32} : Both (f_X10_log (some 64) x y) (f_X13_log (some 224) x y) (PostX K) (K, I, J, A) := by
  have h := op_log (a := x.toInt) (b := y.toInt) hI (rng32 x) (rng32 y)
  rw [zi_self, zi_self] at h
  exact h.mono (fun h p => PostX.p p)
theorem lo_character (hI : Core kwC K I J A w) (hT : Tr I w tr) (hSK : SK K) {x y z : Int32} : Both (f_X10_character (some 64) x y z) (f_X13_character (some 224) x y z) (PostX K) (K, I, J, A) := by
  have h := op_character (a := x.toInt) (b := y.toInt) (c := z.toInt) hI (rng32 x) (rng32 y) (rng32 z)
  rw [zi_self, zi_self, zi_self] at h
  exact h.mono (fun h p => PostX.p p)
theorem lo_sum (hI : Core kwC K I J A w) (hT : Tr I w tr) (hSK : SK K) {x y z u : Int32} : Both (f_X10_sum (some 64) x y z u) (f_X13_sum (some 224) x y z u) (PostX K) (K, I, J, A) := by
  have h := op_sum (a := x.toInt) (b := y.toInt) (c := z.toInt) (d := u.toInt) hI (rng32 x) (rng32 y) (rng32 z) (rng32 u)
  rw [zi_self, zi_self, zi_self, zi_self] at h
  exact h.mono (fun h p => PostX.p p)
theorem lo_norm (hI : Core kwC K I J A w) (hT : Tr I w tr) (hSK : SK K) {x y z : Int32} : Both (f_X10_norm (some 64) x y z) (f_X13_norm (some 224) x y z) (PostX K) (K, I, J, A) := by
  have h := op_norm (a := x.toInt) (b := y.toInt) (c := z.toInt) hI (rng32 x) (rng32 y) (rng32 z)
  rw [zi_self, zi_self, zi_self] at h
  exact h.mono (fun h p => PostX.p p)
theorem lo_relation (hI : Core kwC K I J A w) (hT : Tr I w tr) (hSK : SK K) {x y z u : Int32} : Both (f_X10_relation (some 64) x y z u) (f_X13_relation (some 224) x y z u) (PostX K) (K, I, J, A) := by
  have h := op_relation (a := x.toInt) (b := y.toInt) (c := z.toInt) (d := u.toInt) hI (rng32 x) (rng32 y) (rng32 z) (rng32 u)
  rw [zi_self, zi_self, zi_self, zi_self] at h
  exact h.mono (fun h p => PostX.p p)
theorem lo_part (hI : Core kwC K I J A w) (hT : Tr I w tr) (hSK : SK K) {x y z u : Int32} : Both (f_X10_part (some 64) x y z u) (f_X13_part (some 224) x y z u) (PostX K) (K, I, J, A) := by
  have h := op_part (a := x.toInt) (b := y.toInt) (c := z.toInt) (d := u.toInt) hI (rng32 x) (rng32 y) (rng32 z) (rng32 u)
  rw [zi_self, zi_self, zi_self, zi_self] at h
  exact h.mono (fun h p => PostX.p p)
theorem lo_law (hI : Core kwC K I J A w) (hT : Tr I w tr) (hSK : SK K) {x y z u : Int32} : Both (f_X10_law (some 64) x y z u) (f_X13_law (some 224) x y z u) (PostX K) (K, I, J, A) := by
  have h := op_law (a := x.toInt) (b := y.toInt) (c := z.toInt) (d := u.toInt) hI (rng32 x) (rng32 y) (rng32 z) (rng32 u)
  rw [zi_self, zi_self, zi_self, zi_self] at h
  exact h.mono (fun h p => PostX.p p)
theorem lo_parts (hI : Core kwC K I J A w) (hT : Tr I w tr) (hSK : SK K) {x y z : Int32} : Both (f_X10_parts (some 64) x y z) (f_X13_parts (some 224) x y z) (PostX K) (K, I, J, A) := by
  have h := op_parts (a := x.toInt) (b := y.toInt) (c := z.toInt) hI (rng32 x) (rng32 y) (rng32 z)
  rw [zi_self, zi_self, zi_self] at h
  exact h.mono (fun h p => PostX.p p)
theorem lo_let (hI : Core kwC K I J A w) (hT : Tr I w tr) (hSK : SK K) {x y : Int32} : Both (f_X10_let (some 64) x y) (f_X13_let (some 224) x y) (PostX K) (K, I, J, A) := by
  have h := op_let (a := x.toInt) (b := y.toInt) hI (rng32 x) (rng32 y)
  rw [zi_self, zi_self] at h
  exact h.mono (fun h p => PostX.p p)
theorem lo_letField (hI : Core kwC K I J A w) (hT : Tr I w tr) (hSK : SK K) {x : Int32} : Both (f_X10_letField (some 64) x) (f_X13_letField (some 224) x) (PostX K) (K, I, J, A) := by
  have h := op_letField (a := x.toInt) hI (rng32 x)
  rw [zi_self] at h
  exact h.mono (fun h p => PostX.p p)
theorem lo_letPart (hI : Core kwC K I J A w) (hT : Tr I w tr) (hSK : SK K) {x y : Int32} : Both (f_X10_letPart (some 64) x y) (f_X13_letPart (some 224) x y) (PostX K) (K, I, J, A) := by
  have h := op_letPart (a := x.toInt) (b := y.toInt) hI (rng32 x) (rng32 y)
  rw [zi_self, zi_self] at h
  exact h.mono (fun h p => PostX.p p)
theorem lo_whole (hI : Core kwC K I J A w) (hT : Tr I w tr) (hSK : SK K) {x : Int32} : Both (f_X10_whole (some 64) x) (f_X13_whole (some 224) x) (PostX K) (K, I, J, A) := by
  have h := op_whole (a := x.toInt) hI (rng32 x)
  rw [zi_self] at h
  exact h.mono (fun h p => PostX.p p)
theorem lo_count (hI : Core kwC K I J A w) (hT : Tr I w tr) (hSK : SK K) {x : Int32} : Both (f_X10_count (some 64) x) (f_X13_count (some 224) x) (PostX K) (K, I, J, A) := by
  have h := op_count (a := x.toInt) hI (rng32 x)
  rw [zi_self] at h
  exact h.mono (fun h p => PostX.p p)
theorem lo_countOf (hI : Core kwC K I J A w) (hT : Tr I w tr) (hSK : SK K) {x y : Int32} : Both (f_X10_countOf (some 64) x y) (f_X13_countOf (some 224) x y) (PostX K) (K, I, J, A) := by
  have h := op_countOf (a := x.toInt) (b := y.toInt) hI (rng32 x) (rng32 y)
  rw [zi_self, zi_self] at h
  exact h.mono (fun h p => PostX.p p)
theorem lo_curve (hI : Core kwC K I J A w) (hT : Tr I w tr) (hSK : SK K) {x y : Int32} : Both (f_X10_curve (some 64) x y) (f_X13_curve (some 224) x y) (PostX K) (K, I, J, A) := by
  have h := op_curve (a := x.toInt) (b := y.toInt) hI (rng32 x) (rng32 y)
  rw [zi_self, zi_self] at h
  exact h.mono (fun h p => PostX.p p)
theorem lo_sign (hI : Core kwC K I J A w) (hT : Tr I w tr) (hSK : SK K) {x y : Int32} : Both (f_X10_sign (some 64) x y) (f_X13_sign (some 224) x y) (PostX K) (K, I, J, A) := by
  have h := op_sign (a := x.toInt) (b := y.toInt) hI (rng32 x) (rng32 y)
  rw [zi_self, zi_self] at h
  exact h.mono (fun h p => PostX.p p)
theorem lo_both (hI : Core kwC K I J A w) (hT : Tr I w tr) (hSK : SK K) {x y : Int32} : Both (f_X10_both (some 64) x y) (f_X13_both (some 224) x y) (PostX K) (K, I, J, A) := by
  have h := op_both (a := x.toInt) (b := y.toInt) hI (rng32 x) (rng32 y)
  rw [zi_self, zi_self] at h
  exact h.mono (fun h p => PostX.p p)
theorem lo_form (hI : Core kwC K I J A w) (hT : Tr I w tr) (hSK : SK K) {x y : Int32} : Both (f_X10_form (some 64) x y) (f_X13_form (some 224) x y) (PostX K) (K, I, J, A) := by
  have h := op_form (a := x.toInt) (b := y.toInt) hI (rng32 x) (rng32 y)
  rw [zi_self, zi_self] at h
  exact h.mono (fun h p => PostX.p p)
theorem lo_power (hI : Core kwC K I J A w) (hT : Tr I w tr) (hSK : SK K) {x y z : Int32} : Both (f_X10_power (some 64) x y z) (f_X13_power (some 224) x y z) (PostX K) (K, I, J, A) := by
  have h := op_power (a := x.toInt) (b := y.toInt) (c := z.toInt) hI (rng32 x) (rng32 y) (rng32 z)
  rw [zi_self, zi_self, zi_self] at h
  exact h.mono (fun h p => PostX.p p)
theorem lo_classSums (hI : Core kwC K I J A w) (hT : Tr I w tr) (hSK : SK K) {x : Int32} : Both (f_X10_classSums (some 64) x) (f_X13_classSums (some 224) x) (PostX K) (K, I, J, A) := by
  have h := op_classSums (a := x.toInt) hI (rng32 x)
  rw [zi_self] at h
  exact h.mono (fun h p => PostX.p p)
theorem lo_classForms (hI : Core kwC K I J A w) (hT : Tr I w tr) (hSK : SK K) {x : Int32} : Both (f_X10_classForms (some 64) x) (f_X13_classForms (some 224) x) (PostX K) (K, I, J, A) := by
  have h := op_classForms (a := x.toInt) hI (rng32 x)
  rw [zi_self] at h
  exact h.mono (fun h p => PostX.p p)
theorem lo_meets (hI : Core kwC K I J A w) (hT : Tr I w tr) (hSK : SK K) {x y z : Int32} : Both (f_X10_meets (some 64) x y z) (f_X13_meets (some 224) x y z) (PostX K) (K, I, J, A) := by
  have h := op_meets (a := x.toInt) (b := y.toInt) (c := z.toInt) hI (rng32 x) (rng32 y) (rng32 z)
  rw [zi_self, zi_self, zi_self] at h
  exact h.mono (fun h p => PostX.p p)
theorem lo_even (hI : Core kwC K I J A w) (hT : Tr I w tr) (hSK : SK K) {x : Int32} : Both (f_X10_even (some 64) x) (f_X13_even (some 224) x) (PostX K) (K, I, J, A) := by
  have h := op_even (a := x.toInt) hI (rng32 x)
  rw [zi_self] at h
  exact h.mono (fun h p => PostX.p p)
theorem lo_echo (hI : Core kwC K I J A w) (hT : Tr I w tr) (hSK : SK K) {x y z : Int32} : Both (f_X10_echo (some 64) x y z) (f_X13_echo (some 224) x y z) (PostX K) (K, I, J, A) := by
  have h := op_echo (a := x.toInt) (b := y.toInt) (c := z.toInt) hI (rng32 x) (rng32 y) (rng32 z)
  rw [zi_self, zi_self, zi_self] at h
  exact h.mono (fun h p => PostX.p p)
theorem lo_noise (hI : Core kwC K I J A w) (hT : Tr I w tr) (hSK : SK K) {x y : Int32} : Both (f_X10_noise (some 64) x y) (f_X13_noise (some 224) x y) (PostX K) (K, I, J, A) := by
  have h := op_noise (a := x.toInt) (b := y.toInt) hI (rng32 x) (rng32 y)
  rw [zi_self, zi_self] at h
  exact h.mono (fun h p => PostX.p p)
theorem lo_lowest (hI : Core kwC K I J A w) (hT : Tr I w tr) (hSK : SK K) {x : Int32} : Both (f_X10_lowest (some 64) x) (f_X13_lowest (some 224) x) (PostX K) (K, I, J, A) := by
  have h := op_lowest (a := x.toInt) hI (rng32 x)
  rw [zi_self] at h
  exact h.mono (fun h p => PostX.p p)
theorem lo_choose (hI : Core kwC K I J A w) (hT : Tr I w tr) (hSK : SK K) {x : Int32} : Both (f_X10_choose (some 64) x) (f_X13_choose (some 224) x) (PostX K) (K, I, J, A) := by
  have h := op_choose (a := x.toInt) hI (rng32 x)
  rw [zi_self] at h
  exact h.mono (fun h p => PostX.e p)
theorem lo_register (hI : Core kwC K I J A w) (hT : Tr I w tr) (hSK : SK K) {x y : Int32} : Both (f_X10_register (some 64) x y) (f_X13_register (some 224) x y) (PostX K) (K, I, J, A) := by
  have h := op_register (a := x.toInt) (b := y.toInt) hI (rng32 x) (rng32 y)
  rw [zi_self, zi_self] at h
  exact h.mono (fun h p => PostX.p p)
theorem lo_take (hI : Core kwC K I J A w) (hT : Tr I w tr) (hSK : SK K) {x y : Int32} : Both (f_X10_take (some 64) x y) (f_X13_take (some 224) x y) (PostX K) (K, I, J, A) := by
  have h := op_take (a := x.toInt) (b := y.toInt) hI (rng32 x) (rng32 y)
  rw [zi_self, zi_self] at h
  exact h.mono (fun h p => PostX.e p)
theorem lo_jacobi (hI : Core kwC K I J A w) (hT : Tr I w tr) (hSK : SK K) {x y z : Int32} : Both (f_X10_jacobi (some 64) x y z) (f_X13_jacobi (some 224) x y z) (PostX K) (K, I, J, A) := by
  have h := op_jacobi (a := x.toInt) (b := y.toInt) (c := z.toInt) hI (rng32 x) (rng32 y) (rng32 z)
  rw [zi_self, zi_self, zi_self] at h
  exact h.mono (fun h p => PostX.e p)
theorem lo_add (hI : Core kwC K I J A w) (hT : Tr I w tr) (hSK : SK K) {x y z : Int32} : Both (f_X10_add (some 64) x y z) (f_X13_add (some 224) x y z) (PostX K) (K, I, J, A) := by
  have h := op_add (a := x.toInt) (b := y.toInt) (c := z.toInt) hI (rng32 x) (rng32 y) (rng32 z)
  rw [zi_self, zi_self, zi_self] at h
  exact h.mono (fun h p => PostX.e p)
theorem lo_times (hI : Core kwC K I J A w) (hT : Tr I w tr) (hSK : SK K) {x y : Int32} : Both (f_X10_times (some 64) x y) (f_X13_times (some 224) x y) (PostX K) (K, I, J, A) := by
  have h := op_times (a := x.toInt) (b := y.toInt) hI (rng32 x) (rng32 y)
  rw [zi_self, zi_self] at h
  exact h.mono (fun h p => PostX.e p)
theorem lo_turn (hI : Core kwC K I J A w) (hT : Tr I w tr) (hSK : SK K) {x y : Int32} : Both (f_X10_turn (some 64) x y) (f_X13_turn (some 224) x y) (PostX K) (K, I, J, A) := by
  have h := op_turn (a := x.toInt) (b := y.toInt) hI (rng32 x) (rng32 y)
  rw [zi_self, zi_self] at h
  exact h.mono (fun h p => PostX.e p)
theorem lo_size (hI : Core kwC K I J A w) (hT : Tr I w tr) (hSK : SK K) {x : Int32} : Both (f_X10_size (some 64) x) (f_X13_size (some 224) x) (PostX K) (K, I, J, A) := by
  have h := op_size (a := x.toInt) hI (rng32 x)
  rw [zi_self] at h
  exact h.mono (fun h p => PostX.p p)
theorem lo_undo (hI : Core kwC K I J A w) (hT : Tr I w tr) (hSK : SK K) : Both (f_X10_undo (some 64)) (f_X13_undo (some 224)) (PostX K) (K, I, J, A) := by
  have h := op_undo  hI 
  exact h.mono (fun h p => PostX.e p)
theorem lo_redo (hI : Core kwC K I J A w) (hT : Tr I w tr) (hSK : SK K) : Both (f_X10_redo (some 64)) (f_X13_redo (some 224)) (PostX K) (K, I, J, A) := by
  have h := op_redo  hI 
  exact h.mono (fun h p => PostX.e p)
theorem lo_image (hI : Core kwC K I J A w) (hT : Tr I w tr) (hSK : SK K) : Both (f_X10_image (some 64)) (f_X13_image (some 224)) (PostX K) (K, I, J, A) := by
  have h := op_image  hI 
  exact h.mono (fun h p => PostX.e p)
theorem lo_restore (hI : Core kwC K I J A w) (hT : Tr I w tr) (hSK : SK K) {x : Int32} : Both (f_X10_restore (some 64) x) (f_X13_restore (some 224) x) (PostX K) (K, I, J, A) := by
  have h := op_restore (a := x.toInt) hI (rng32 x)
  rw [zi_self] at h
  exact h.mono (fun h p => PostX.e p)
theorem lo_told (hI : Core kwC K I J A w) (hT : Tr I w tr) (hSK : SK K) {x : Int32} : Both (f_X10_told (some 64) x) (f_X13_told (some 224) x) (PostX K) (K, I, J, A) := by
  have h := op_told (a := x.toInt) hI hT (rng32 x)
  rw [zi_self] at h
  exact h.mono (fun h p => PostX.s p)
theorem lo_trouble (hI : Core kwC K I J A w) (hT : Tr I w tr) (hSK : SK K) : Both (f_X10_trouble (some 64)) (f_X13_trouble (some 224)) (PostX K) (K, I, J, A) := by
  have h := op_trouble  hI hT 
  exact h.mono (fun h p => PostX.s p)
end
