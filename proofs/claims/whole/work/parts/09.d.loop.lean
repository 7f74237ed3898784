/-! ===== loops that may make cells ===== -/
theorem whileF0 {β : Type} {b : Mo β → Mo β} {Q : β → Hp → Prop} (Inv : Nat → Hp → Prop) (step : ∀ m h R, Inv m h → (∀ m' h', m' < m → Inv m' h' → wp R Q h') → wp (b R) Q h) : ∀ (n m : Nat) (h : Hp), m < n → Inv m h → wp (lq0 b n) Q h := by
  intro n
  induction n with
  | zero => intro m h h1; omega
  | succ n ih => exact fun m h h1 hi => step m h (lq0 b n) hi (fun m' h' hl hi' => ih m' h' (by omega) hi')
theorem whileF1 {α β : Type} {b : (α → Mo β) → α → Mo β} {Q : β → Hp → Prop} (Inv : Nat → α → Hp → Prop) (step : ∀ m x h R, Inv m x h → (∀ m' y h', m' < m → Inv m' y h' → wp (R y) Q h') → wp (b R x) Q h) : ∀ (n m : Nat) (x : α) (h : Hp), m < n → Inv m x h → wp (lq1 b n x) Q h := by
  intro n
  induction n with
  | zero => intro m x h h1; omega
  | succ n ih => exact fun m x h h1 hi => step m x h (lq1 b n) hi (fun m' y h' hl hi' => ih m' y h' (by omega) hi')
theorem whileF2 {α γ β : Type} {b : (α → γ → Mo β) → α → γ → Mo β} {Q : β → Hp → Prop} (Inv : Nat → α → γ → Hp → Prop) (step : ∀ m x y h R, Inv m x y h → (∀ m' x' y' h', m' < m → Inv m' x' y' h' → wp (R x' y') Q h') → wp (b R x y) Q h) : ∀ (n m : Nat) (x : α) (y : γ) (h : Hp), m < n → Inv m x y h → wp (lq2 b n x y) Q h := by
  intro n
  induction n with
  | zero => intro m x y h h1; omega
  | succ n ih => exact fun m x y h h1 hi => step m x y h (lq2 b n) hi (fun m' x' y' h' hl hi' => ih m' x' y' h' (by omega) hi')
