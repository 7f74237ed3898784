/-! ===== THE PURE PART: what the class's and the reference's functions do over the abstract heap ===== -/
def wp {α : Type} (F : Mo α) (Q : α → Hp → Prop) (h : Hp) : Prop := ∃ r h', F h = some (r, h') ∧ Q r h'
def kk (K : List (Nat × Nat)) (a : Nat) : Nat × Nat := (K[a]?).getD (99, 0)
def st2 {α : Type} (f : Nat → Nat → α) (a k : Nat) (x : α) : Nat → Nat → α := st1 f a (st1 (f a) k x)
theorem st2_at {α : Type} {f : Nat → Nat → α} {a k : Nat} {x : α} : st2 f a k x a k = x := by unfold st2 st1; simp
theorem st2_na {α : Type} {f : Nat → Nat → α} {a k b j : Nat} {x : α} (h : b ≠ a) : st2 f a k x b j = f b j := by unfold st2 st1; simp [h]
theorem st2_nb {α : Type} {f : Nat → Nat → α} {a k b : Nat} {x : α} (h : b ≠ a) : st2 f a k x b = f b := by unfold st2 st1; simp [h]
theorem st2_nk {α : Type} {f : Nat → Nat → α} {a k b j : Nat} {x : α} (h : j ≠ k) : st2 f a k x b j = f b j := by
  unfold st2 st1
  by_cases hb : b = a
  · simp [hb, h]
  · simp [hb]
theorem st2_app {α : Type} {f : Nat → Nat → α} {a k b j : Nat} {x : α} : st2 f a k x b j = if b = a ∧ j = k then x else f b j := by
  unfold st2 st1
  by_cases hb : b = a <;> by_cases hj : j = k <;> simp [hb, hj]
theorem wp_rt {α : Type} {x : α} {Q : α → Hp → Prop} {h : Hp} (q : Q x h) : wp (mRt x) Q h := ⟨x, h, rfl, q⟩
theorem wp_bd {α β : Type} {F : Mo α} {G : α → Mo β} {Q : β → Hp → Prop} {h : Hp} (w : wp F (fun r h' => wp (G r) Q h') h) : wp (mBd F G) Q h := by
  obtain ⟨r, h', e, r2, h2, e2, q⟩ := w
  exact ⟨r2, h2, by unfold mBd; rw [e]; exact e2, q⟩
theorem wp_mono {α : Type} {F : Mo α} {Q Q' : α → Hp → Prop} {h : Hp} (w : wp F Q h) (m : ∀ r h', Q r h' → Q' r h') : wp F Q' h := by
  obtain ⟨r, h', e, q⟩ := w
  exact ⟨r, h', e, m r h' q⟩
theorem wp_eq {α : Type} {F : Mo α} {Q : α → Hp → Prop} {h h' : Hp} {r : α} (e : F h = some (r, h')) (q : Q r h') : wp F Q h := ⟨r, h', e, q⟩
theorem b_eq {α β : Type} {F : Mo α} {G : α → Mo β} {Q : β → Hp → Prop} {h h' : Hp} {r : α} (e : F h = some (r, h')) (w : wp (G r) Q h') : wp (mBd F G) Q h := wp_bd ⟨r, h', e, w⟩
theorem b_rt {α β : Type} {x : α} {G : α → Mo β} {Q : β → Hp → Prop} {h : Hp} (w : wp (G x) Q h) : wp (mBd (mRt x) G) Q h := b_eq rfl w
theorem b_assoc {α β γ : Type} {F : Mo α} {G : α → Mo β} {P : β → Mo γ} {Q : γ → Hp → Prop} {h : Hp} (w : wp (mBd F (fun x => mBd (G x) P)) Q h) : wp (mBd (mBd F G) P) Q h := by
  obtain ⟨r, h', e, q⟩ := w
  refine ⟨r, h', ?_, q⟩
  unfold mBd at e ⊢
  cases hF : F h with
  | none => rw [hF] at e; cases e
  | some z => rw [hF] at e; exact e
theorem b_nm {α β : Type} {x : α} {G : α → Mo β} {Q : β → Hp → Prop} {h : Hp} (w : wp (G x) Q h) : wp (mNm x G) Q h := w
theorem wp_rq {α : Type} {c : Prop} [Decidable c] {F : Mo α} {Q : α → Hp → Prop} {h : Hp} (hc : c) (w : wp F Q h) : wp (mRq c F) Q h := by unfold mRq; rw [if_pos hc]; exact w
theorem b_rq {α β : Type} {c : Prop} [Decidable c] {F : Mo α} {G : α → Mo β} {Q : β → Hp → Prop} {h : Hp} (hc : c) (w : wp (mBd F G) Q h) : wp (mBd (mRq c F) G) Q h := by unfold mRq; rw [if_pos hc]; exact w
theorem wp_ifp {α : Type} {c : Prop} [Decidable c] {F G : Mo α} {Q : α → Hp → Prop} {h : Hp} (hc : c) (w : wp F Q h) : wp (if c then F else G) Q h := by rw [if_pos hc]; exact w
theorem wp_ifn {α : Type} {c : Prop} [Decidable c] {F G : Mo α} {Q : α → Hp → Prop} {h : Hp} (hc : ¬ c) (w : wp G Q h) : wp (if c then F else G) Q h := by rw [if_neg hc]; exact w
theorem wp_ite {α : Type} {c : Prop} [Decidable c] {F G : Mo α} {Q : α → Hp → Prop} {h : Hp} (w1 : c → wp F Q h) (w2 : ¬ c → wp G Q h) : wp (if c then F else G) Q h := by
  by_cases hc : c
  · rw [if_pos hc]; exact w1 hc
  · rw [if_neg hc]; exact w2 hc
theorem b_ite {α β : Type} {c : Prop} [Decidable c] {F G : Mo α} {P : α → Mo β} {Q : β → Hp → Prop} {h : Hp} (w : wp (if c then mBd F P else mBd G P) Q h) : wp (mBd (if c then F else G) P) Q h := by
  by_cases hc : c
  · rw [if_pos hc] at w ⊢; exact w
  · rw [if_neg hc] at w ⊢; exact w
theorem b_ck {α β : Type} {c a : Nat} {F : Mo α} {G : α → Mo β} {Q : β → Hp → Prop} {K : List (Nat × Nat)} {I : Nat → Nat → Int32} {J : Nat → Nat → Int64} {A : Nat → Nat → Option Nat} (hk : kk K a = (0, c)) (w : wp (mBd F G) Q (K, I, J, A)) : wp (mBd (mCk c (some a) F) G) Q (K, I, J, A) := by
  obtain ⟨r, h', e, q⟩ := w
  refine ⟨r, h', ?_, q⟩
  unfold mBd at e ⊢
  rw [show mCk c (some a) F (K, I, J, A) = F (K, I, J, A) from if_pos hk]
  exact e
theorem wp_ck {α : Type} {c a : Nat} {F : Mo α} {Q : α → Hp → Prop} {K : List (Nat × Nat)} {I : Nat → Nat → Int32} {J : Nat → Nat → Int64} {A : Nat → Nat → Option Nat} (hk : kk K a = (0, c)) (w : wp F Q (K, I, J, A)) : wp (mCk c (some a) F) Q (K, I, J, A) := by
  obtain ⟨r, h', e, q⟩ := w
  exact ⟨r, h', (show mCk c (some a) F (K, I, J, A) = F (K, I, J, A) from if_pos hk).trans e, q⟩
section
variable {β : Type} {Q : β → Hp → Prop} {K : List (Nat × Nat)} {I : Nat → Nat → Int32} {J : Nat → Nat → Int64} {A : Nat → Nat → Option Nat} {c k a : Nat}
theorem b_getI {G : Int32 → Mo β} (hk : kk K a = (0, c)) (w : wp (G (I a k)) Q (K, I, J, A)) : wp (mBd (mGetI c k (some a)) G) Q (K, I, J, A) := b_eq (if_pos hk) w
theorem b_getIv {G : Int32 → Mo β} {v : Int32} (hk : kk K a = (0, c)) (hv : I a k = v) (w : wp (G v) Q (K, I, J, A)) : wp (mBd (mGetI c k (some a)) G) Q (K, I, J, A) := b_getI hk (hv.symm ▸ w)
theorem b_getJ {G : Int64 → Mo β} (hk : kk K a = (0, c)) (w : wp (G (J a k)) Q (K, I, J, A)) : wp (mBd (mGetJ c k (some a)) G) Q (K, I, J, A) := b_eq (if_pos hk) w
theorem b_getJv {G : Int64 → Mo β} {v : Int64} (hk : kk K a = (0, c)) (hv : J a k = v) (w : wp (G v) Q (K, I, J, A)) : wp (mBd (mGetJ c k (some a)) G) Q (K, I, J, A) := b_getJ hk (hv.symm ▸ w)
theorem b_getA {G : Option Nat → Mo β} {v : Option Nat} (hk : kk K a = (0, c)) (hv : A a k = v) (w : wp (G v) Q (K, I, J, A)) : wp (mBd (mGetA c k (some a)) G) Q (K, I, J, A) := b_eq ((if_pos hk).trans (by show some (A a k, _) = _; rw [hv])) w
theorem b_putI {G : Unit → Mo β} {x : Int32} (hk : kk K a = (0, c)) (ha : 64 ≤ a) (w : wp (G ()) Q (K, st2 I a k x, J, A)) : wp (mBd (mPutI c k (some a) x) G) Q (K, I, J, A) := b_eq (if_pos ⟨hk, ha⟩) w
theorem b_putZ {G : Unit → Mo β} {x : Int32} (hk : kk K a = (0, c)) (ha : 64 ≤ a) (hx : x = 0 ∨ x = 1) (w : wp (G ()) Q (K, st2 I a k x, J, A)) : wp (mBd (mPutZ c k (some a) x) G) Q (K, I, J, A) := b_eq (if_pos ⟨⟨hk, ha⟩, hx⟩) w
theorem b_putJ {G : Unit → Mo β} {x : Int64} (hk : kk K a = (0, c)) (ha : 64 ≤ a) (w : wp (G ()) Q (K, I, st2 J a k x, A)) : wp (mBd (mPutJ c k (some a) x) G) Q (K, I, J, A) := b_eq (if_pos ⟨hk, ha⟩) w
theorem b_putA {G : Unit → Mo β} {x : Option Nat} (hk : kk K a = (0, c)) (ha : 64 ≤ a) (w : wp (G ()) Q (K, I, J, st2 A a k x)) : wp (mBd (mPutA c k (some a) x) G) Q (K, I, J, A) := b_eq (if_pos ⟨hk, ha⟩) w
end
/-! ===== numbers ===== -/
/-- an int, of a natural number; of a whole one -/
def zn (n : Nat) : Int32 := Int32.ofNat n
def zi (z : Int) : Int32 := Int32.ofInt z
theorem zi_nat (n : Nat) : zi (n : Int) = zn n := Int32.ofInt_eq_ofNat
theorem zn_zi (n : Nat) : zn n = zi (n : Int) := (zi_nat n).symm
theorem zi_toInt {z : Int} (h1 : -2147483648 ≤ z) (h2 : z < 2147483648) : (zi z).toInt = z := Int32.toInt_ofInt_of_le (by omega) (by omega)
theorem zn_toInt {n : Nat} (h : n < 2147483648) : (zn n).toInt = n := by rw [zn_zi]; exact zi_toInt (by omega) (by omega)
theorem zi_self (x : Int32) : zi x.toInt = x := by unfold zi; simp
theorem zi_add (a b : Int) : zi a + zi b = zi (a + b) := (Int32.ofInt_add a b).symm
theorem zi_sub (a b : Int) : zi a - zi b = zi (a - b) := (Int32.ofInt_sub a b).symm
theorem zi_mul (a b : Int) : zi a * zi b = zi (a * b) := (Int32.ofInt_mul a b).symm
theorem zi_neg (a : Int) : -(zi a) = zi (-a) := (Int32.ofInt_neg a).symm
theorem zn_add (a b : Nat) : zn a + zn b = zn (a + b) := by rw [zn_zi, zn_zi, zn_zi, zi_add]; congr 1
theorem zn_mul (a b : Nat) : zn a * zn b = zn (a * b) := by rw [zn_zi, zn_zi, zn_zi, zi_mul]; congr 1
theorem zn_sub {a b : Nat} (h : b ≤ a) : zn a - zn b = zn (a - b) := by rw [zn_zi, zn_zi, zn_zi, zi_sub]; congr 1; omega
theorem zn_inj {a b : Nat} (h1 : a < 2147483648) (h2 : b < 2147483648) : zn a = zn b ↔ a = b := by
  constructor
  · intro h
    have := congrArg Int32.toInt h
    rw [zn_toInt h1, zn_toInt h2] at this
    omega
  · intro h; rw [h]
theorem zi_inj {a b : Int} (h1 : -2147483648 ≤ a) (h2 : a < 2147483648) (h3 : -2147483648 ≤ b) (h4 : b < 2147483648) : zi a = zi b ↔ a = b := by
  constructor
  · intro h
    have := congrArg Int32.toInt h
    rwa [zi_toInt h1 h2, zi_toInt h3 h4] at this
  · intro h; rw [h]
theorem zn_lt {a b : Nat} (h1 : a < 2147483648) (h2 : b < 2147483648) : zn a < zn b ↔ a < b := by
  rw [Int32.lt_iff_toInt_lt, zn_toInt h1, zn_toInt h2]; omega
theorem zn_le {a b : Nat} (h1 : a < 2147483648) (h2 : b < 2147483648) : zn a ≤ zn b ↔ a ≤ b := by
  rw [Int32.le_iff_toInt_le, zn_toInt h1, zn_toInt h2]; omega
theorem zi_lt {a b : Int} (h1 : -2147483648 ≤ a) (h2 : a < 2147483648) (h3 : -2147483648 ≤ b) (h4 : b < 2147483648) : zi a < zi b ↔ a < b := by
  rw [Int32.lt_iff_toInt_lt, zi_toInt h1 h2, zi_toInt h3 h4]
theorem zi_le {a b : Int} (h1 : -2147483648 ≤ a) (h2 : a < 2147483648) (h3 : -2147483648 ≤ b) (h4 : b < 2147483648) : zi a ≤ zi b ↔ a ≤ b := by
  rw [Int32.le_iff_toInt_le, zi_toInt h1 h2, zi_toInt h3 h4]
theorem zn_clamp {a : Nat} (h : a < 2147483648) : (zn a).toNatClampNeg = a := Int32.toNatClampNeg_ofNat_of_lt (by omega)
theorem zi_clamp {a : Int} (h1 : -2147483648 ≤ a) (h2 : a < 2147483648) : (zi a).toNatClampNeg = a.toNat := Int32.toNatClampNeg_ofInt_of_le (by omega) (by omega)
theorem zn_nneg {a : Nat} (h : a < 2147483648) : ¬ zn a < 0 := by
  rw [show (0 : Int32) = zn 0 from rfl, zn_lt h (by omega)]; omega
theorem z_0 : (0 : Int32) = zn 0 := rfl
theorem z_1 : (1 : Int32) = zn 1 := rfl
theorem z_m1 : (-1 : Int32) = zi (-1) := by decide
theorem z_m2 : (-2 : Int32) = zi (-2) := by decide
theorem zn_succ (k : Nat) : zn k + 1 = zn (k + 1) := zn_add k 1
theorem zn_pred {k : Nat} : zn (k + 1) + (-1) = zn k := by rw [z_m1, zn_zi, zi_add, zn_zi]; congr 1; omega
theorem zn_predi {k : Nat} : zn k + (-1) = zi ((k : Int) - 1) := by rw [z_m1, zn_zi, zi_add]; congr 1
theorem irem_zi {a b : Int} (h1 : -2147483648 < a) (h2 : a < 2147483648) (h3 : -2147483648 ≤ b) (h4 : b < 2147483648) : irem (zi a) (zi b) = zi (a.tmod b) := by
  unfold irem
  have e : zi a / zi b = zi (a.tdiv b) := by
    unfold zi
    rw [Int32.ofInt_tdiv]
    all_goals first | (show _ ≤ _; decide) | (simp only [Int32.toInt_minValue, Int32.toInt_maxValue]; omega)
  rw [e, zi_mul, zi_sub]
  congr 1
  have := Int.tmod_add_mul_tdiv a b
  rw [Int.mul_comm] at this
  omega
theorem irem_zn {a b : Nat} (h1 : a < 2147483648) (h2 : b < 2147483648) : irem (zn a) (zn b) = zn (a % b) := by
  rw [zn_zi, zn_zi, irem_zi (by omega) (by omega) (by omega) (by omega), zn_zi]
  congr 1
theorem zj_zn {a : Nat} (h : a < 2147483648) : (zn a).toInt64.toInt = a := by rw [Int32.toInt_toInt64, zn_toInt h]
theorem zj_zi {a : Int} (h1 : -2147483648 ≤ a) (h2 : a < 2147483648) : (zi a).toInt64.toInt = a := by rw [Int32.toInt_toInt64, zi_toInt h1 h2]
