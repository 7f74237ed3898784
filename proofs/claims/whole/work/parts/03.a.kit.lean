/-! ===== the abstract heap: kinds, ints, longs, references, by abstract addresses (those below 64 are old and never written) ===== -/
abbrev Hp : Type := List (Nat × Nat) × (Nat → Nat → Int32) × (Nat → Nat → Int64) × (Nat → Nat → Option Nat)
abbrev Mo (α : Type) : Type := Hp → Option (α × Hp)
def st1 {α : Type} (f : Nat → α) (a : Nat) (x : α) : Nat → α := fun b => if b = a then x else f b
def kd (h : Hp) (a : Nat) : Nat × Nat := (h.1[a]?).getD (99, 0)
def mRt {α : Type} (x : α) : Mo α := fun h => some (x, h)
def mBad {α : Type} : Mo α := fun _ => none
def mBd {α β : Type} (F : Mo α) (G : α → Mo β) : Mo β := fun h => match F h with
  | none => none
  | some q => G q.1 q.2
def mNm {α β : Type} (x : α) (G : α → Mo β) : Mo β := G x
def mRq {α : Type} (c : Prop) [Decidable c] (F : Mo α) : Mo α := if c then F else mBad
/-- the class's and its fields' types: 0 int, 1 long, 2 a reference, 3 boolean -/
def cN (c : Nat) : Nat := [11, 7, 5, 14, 6, 1, 3, 11, 12, 15, 6, 31].getD c 0
def mGetI (c k : Nat) (o : Option Nat) : Mo Int32 := fun h => match o with
  | none => none
  | some a => if kd h a = (0, c) then some (h.2.1 a k, h) else none
def mGetJ (c k : Nat) (o : Option Nat) : Mo Int64 := fun h => match o with
  | none => none
  | some a => if kd h a = (0, c) then some (h.2.2.1 a k, h) else none
def mGetA (c k : Nat) (o : Option Nat) : Mo (Option Nat) := fun h => match o with
  | none => none
  | some a => if kd h a = (0, c) then some (h.2.2.2 a k, h) else none
def mPutI (c k : Nat) (o : Option Nat) (x : Int32) : Mo Unit := fun h => match o with
  | none => none
  | some a => if kd h a = (0, c) ∧ 64 ≤ a then some ((), (h.1, st1 h.2.1 a (st1 (h.2.1 a) k x), h.2.2.1, h.2.2.2)) else none
def mPutZ (c k : Nat) (o : Option Nat) (x : Int32) : Mo Unit := fun h => match o with
  | none => none
  | some a => if (kd h a = (0, c) ∧ 64 ≤ a) ∧ (x = 0 ∨ x = 1) then some ((), (h.1, st1 h.2.1 a (st1 (h.2.1 a) k x), h.2.2.1, h.2.2.2)) else none
def mPutJ (c k : Nat) (o : Option Nat) (x : Int64) : Mo Unit := fun h => match o with
  | none => none
  | some a => if kd h a = (0, c) ∧ 64 ≤ a then some ((), (h.1, h.2.1, st1 h.2.2.1 a (st1 (h.2.2.1 a) k x), h.2.2.2)) else none
def mPutA (c k : Nat) (o : Option Nat) (x : Option Nat) : Mo Unit := fun h => match o with
  | none => none
  | some a => if kd h a = (0, c) ∧ 64 ≤ a then some ((), (h.1, h.2.1, h.2.2.1, st1 h.2.2.2 a (st1 (h.2.2.2 a) k x))) else none
def mLdI (t : Nat) (o : Option Nat) (i : Int32) : Mo Int32 := fun h => match o with
  | none => none
  | some a => if (kd h a).1 = t ∧ ¬ (i < 0 ∨ (kd h a).2 ≤ i.toNatClampNeg) then some (h.2.1 a i.toNatClampNeg, h) else none
def mLdJ (o : Option Nat) (i : Int32) : Mo Int64 := fun h => match o with
  | none => none
  | some a => if (kd h a).1 = 2 ∧ ¬ (i < 0 ∨ (kd h a).2 ≤ i.toNatClampNeg) then some (h.2.2.1 a i.toNatClampNeg, h) else none
def mLdA (t : Nat) (o : Option Nat) (i : Int32) : Mo (Option Nat) := fun h => match o with
  | none => none
  | some a => if ((kd h a).1 = t ∧ 4 ≤ t ∧ t < 8) ∧ ¬ (i < 0 ∨ (kd h a).2 ≤ i.toNatClampNeg) then some (h.2.2.2 a i.toNatClampNeg, h) else none
def mStI (o : Option Nat) (i x : Int32) : Mo Unit := fun h => match o with
  | none => none
  | some a => if ((kd h a).1 = 1 ∧ 64 ≤ a) ∧ ¬ (i < 0 ∨ (kd h a).2 ≤ i.toNatClampNeg) then some ((), (h.1, st1 h.2.1 a (st1 (h.2.1 a) i.toNatClampNeg x), h.2.2.1, h.2.2.2)) else none
def mStB (o : Option Nat) (i x : Int32) : Mo Unit := fun h => match o with
  | none => none
  | some a => if ((kd h a).1 = 3 ∧ 64 ≤ a) ∧ ¬ (i < 0 ∨ (kd h a).2 ≤ i.toNatClampNeg) then some ((), (h.1, st1 h.2.1 a (st1 (h.2.1 a) i.toNatClampNeg x.toInt8.toInt32), h.2.2.1, h.2.2.2)) else none
def mStJ (o : Option Nat) (i : Int32) (x : Int64) : Mo Unit := fun h => match o with
  | none => none
  | some a => if ((kd h a).1 = 2 ∧ 64 ≤ a) ∧ ¬ (i < 0 ∨ (kd h a).2 ≤ i.toNatClampNeg) then some ((), (h.1, h.2.1, st1 h.2.2.1 a (st1 (h.2.2.1 a) i.toNatClampNeg x), h.2.2.2)) else none
/-- the class whose objects an array of references holds -/
def aC (t : Nat) : Nat := if t = 4 then 2 else if t = 5 then 1 else 10
def mStA (t : Nat) (o : Option Nat) (i : Int32) (x : Option Nat) : Mo Unit := fun h => match o, x with
  | some a, some v => if (((kd h a).1 = t ∧ (t = 4 ∨ t = 5 ∨ t = 7)) ∧ 64 ≤ a ∧ kd h v = (0, aC t) ∧ 64 ≤ v) ∧ ¬ (i < 0 ∨ (kd h a).2 ≤ i.toNatClampNeg) then some ((), (h.1, h.2.1, h.2.2.1, st1 h.2.2.2 a (st1 (h.2.2.2 a) i.toNatClampNeg (some v)))) else none
  | _, _ => none
def mLen (o : Option Nat) : Mo Int32 := fun h => match o with
  | none => none
  | some a => if 1 ≤ (kd h a).1 ∧ (kd h a).1 < 8 then some (Int32.ofNat (kd h a).2, h) else none
/-- a new cell of a kind, all 0 and null -/
def hNew (h : Hp) (q : Nat × Nat) : Hp := (h.1 ++ [q], st1 h.2.1 h.1.length (fun _ => 0), st1 h.2.2.1 h.1.length (fun _ => 0), st1 h.2.2.2 h.1.length (fun _ => none))
def mNew (c : Nat) : Mo (Option Nat) := fun h => if c < 12 then some (some h.1.length, hNew h (0, c)) else none
def mNewA (t : Nat) (n : Int32) : Mo (Option Nat) := fun h => if (1 ≤ t ∧ t < 8 ∧ ¬ t = 6) ∧ ¬ n < 0 ∧ n.toNatClampNeg ≤ 10000 then some (some h.1.length, hNew h (t, n.toNatClampNeg)) else none
/-- new long[n][k] -/
def hNews (h : Hp) (q : Nat × Nat) : Nat → Hp
  | 0 => h
  | n + 1 => hNew (hNews h q n) q
def mNewM (n k : Int32) : Mo (Option Nat) := fun h => if (¬ n < 0 ∧ n.toNatClampNeg ≤ 100) ∧ ¬ k < 0 ∧ k.toNatClampNeg ≤ 100 then
    some (some h.1.length, ((hNews (hNew h (6, n.toNatClampNeg)) (2, k.toNatClampNeg) n.toNatClampNeg).1, (hNews (hNew h (6, n.toNatClampNeg)) (2, k.toNatClampNeg) n.toNatClampNeg).2.1, (hNews (hNew h (6, n.toNatClampNeg)) (2, k.toNatClampNeg) n.toNatClampNeg).2.2.1,
      st1 (hNews (hNew h (6, n.toNatClampNeg)) (2, k.toNatClampNeg) n.toNatClampNeg).2.2.2 h.1.length (fun j => if j < n.toNatClampNeg then some (h.1.length + 1 + j) else none))) else none
/-! loops with one to six variables -/
def lq1 {α ρ : Type} (b : (α → Mo ρ) → α → Mo ρ) : Nat → α → Mo ρ
  | 0 => fun _ => mBad
  | n + 1 => b (lq1 b n)
def lq2 {α β ρ : Type} (b : (α → β → Mo ρ) → α → β → Mo ρ) : Nat → α → β → Mo ρ
  | 0 => fun _ _ => mBad
  | n + 1 => b (lq2 b n)
def lq3 {α β γ ρ : Type} (b : (α → β → γ → Mo ρ) → α → β → γ → Mo ρ) : Nat → α → β → γ → Mo ρ
  | 0 => fun _ _ _ => mBad
  | n + 1 => b (lq3 b n)
def lq4 {α β γ δ ρ : Type} (b : (α → β → γ → δ → Mo ρ) → α → β → γ → δ → Mo ρ) : Nat → α → β → γ → δ → Mo ρ
  | 0 => fun _ _ _ _ => mBad
  | n + 1 => b (lq4 b n)
def lq0 {ρ : Type} (b : Mo ρ → Mo ρ) : Nat → Mo ρ
  | 0 => mBad
  | n + 1 => b (lq0 b n)
/-- a loop's patience -/
def fuel : Nat := 1000000
/-! ===== what grows ===== -/
def ksz (q : Nat × Nat) : Nat := if q.1 = 0 then cN q.2 else q.2
def hsz (h : Hp) : Nat := (h.1.map ksz).sum
def Mono {α : Type} (F : Mo α) : Prop := ∀ (h : Hp) (r : α) (h' : Hp), F h = some (r, h') → ∃ ext, h'.1 = h.1 ++ ext
theorem hsz_ext {h h' : Hp} {ext : List (Nat × Nat)} (e : h'.1 = h.1 ++ ext) : hsz h' = hsz h + (ext.map ksz).sum := by
  unfold hsz
  rw [e, List.map_append, List.sum_append]
theorem Mono.len {α : Type} {F : Mo α} (m : Mono F) {h : Hp} {r : α} {h' : Hp} (e : F h = some (r, h')) : h.1.length ≤ h'.1.length ∧ hsz h ≤ hsz h' := by
  obtain ⟨x, hx⟩ := m h r h' e
  rw [hsz_ext hx, hx, List.length_append]
  exact ⟨Nat.le_add_right _ _, Nat.le_add_right _ _⟩
theorem mono_bad {α : Type} : Mono (mBad : Mo α) := fun h r h' e => by cases e
theorem mono_rt {α : Type} (x : α) : Mono (mRt x) := fun h r h' e => by
  cases e
  exact ⟨[], (List.append_nil _).symm⟩
theorem mono_bd {α β : Type} {F : Mo α} {G : α → Mo β} (mF : Mono F) (mG : ∀ x, Mono (G x)) : Mono (mBd F G) := fun h r h' e => by
  unfold mBd at e
  cases hq : F h with
  | none => rw [hq] at e; cases e
  | some q =>
    rw [hq] at e
    obtain ⟨x, hx⟩ := mF h q.1 q.2 hq
    obtain ⟨z, hz⟩ := mG q.1 q.2 r h' e
    exact ⟨x ++ z, by rw [hz, hx, List.append_assoc]⟩
theorem mono_ite {α : Type} {c : Prop} [Decidable c] {F G : Mo α} (mF : Mono F) (mG : Mono G) : Mono (if c then F else G) := by
  by_cases hc : c
  · rw [if_pos hc]; exact mF
  · rw [if_neg hc]; exact mG
theorem bd_some {α β : Type} {F : Mo α} {G : α → Mo β} {h h1 : Hp} {x : α} (e : F h = some (x, h1)) : mBd F G h = G x h1 := by
  unfold mBd
  rw [e]
theorem bd_inv {α β : Type} {F : Mo α} {G : α → Mo β} {h : Hp} {z : β × Hp} (e : mBd F G h = some z) : ∃ x h1, F h = some (x, h1) ∧ G x h1 = some z := by
  unfold mBd at e
  cases hq : F h with
  | none => rw [hq] at e; cases e
  | some q => rw [hq] at e; exact ⟨q.1, q.2, rfl, e⟩
/-! ===== the String constants ===== -/
def sTx : List (String × Nat × String) := [("TurningSums$Tape", 48, "field equation let order in with to is be z sum conj turn "), ("TurningSums$Tape", 103, ";,+-*()"), ("TurningSums", 308, "no such power"), ("TurningSumsModel", 176, "field"), ("TurningSumsModel", 178, "equation"), ("TurningSumsModel", 180, "let"), ("TurningSumsModel", 182, "order"), ("TurningSumsModel", 184, "in"), ("TurningSumsModel", 185, "with"), ("TurningSumsModel", 187, "to"), ("TurningSumsModel", 189, "is"), ("TurningSumsModel", 191, "be"), ("TurningSumsModel", 193, "z"), ("TurningSumsModel", 195, "sum"), ("TurningSumsModel", 197, "conj"), ("TurningSumsModel", 199, "turn")]
def sBy : List (List Int32) := [[102, 105, 101, 108, 100, 32, 101, 113, 117, 97, 116, 105, 111, 110, 32, 108, 101, 116, 32, 111, 114, 100, 101, 114, 32, 105, 110, 32, 119, 105, 116, 104, 32, 116, 111, 32, 105, 115, 32, 98, 101, 32, 122, 32, 115, 117, 109, 32, 99, 111, 110, 106, 32, 116, 117, 114, 110, 32], [59, 44, 43, 45, 42, 40, 41], [110, 111, 32, 115, 117, 99, 104, 32, 112, 111, 119, 101, 114], [102, 105, 101, 108, 100], [101, 113, 117, 97, 116, 105, 111, 110], [108, 101, 116], [111, 114, 100, 101, 114], [105, 110], [119, 105, 116, 104], [116, 111], [105, 115], [98, 101], [122], [115, 117, 109], [99, 111, 110, 106], [116, 117, 114, 110]]
def sLn : List Nat := [58, 7, 13, 5, 8, 3, 5, 2, 4, 2, 2, 2, 1, 3, 4, 4]
/-! ===== the launch's numbers and what an abstract heap says of a heap ===== -/
abbrev Gl : Type := Launch × va_G × (Nat → ClassId) × (Nat → Nat) × Nat × List (Nat × Nat) × (Nat → Nat → Int32)
def gD (g : Gl) : va_G := g.2.1
def gC (g : Gl) : Nat → ClassId := g.2.2.1
def gO (g : Gl) : Nat → Nat := g.2.2.2.1
def gB (g : Gl) : Nat := g.2.2.2.2.1
def gK (g : Gl) : List (Nat × Nat) := g.2.2.2.2.2.1
def gI (g : Gl) : Nat → Nat → Int32 := g.2.2.2.2.2.2
def ad (g : Gl) (k : Nat) : Nat := if k < 64 then gO g k else gB g + (k - 64)
/-- a value on the stack or in a local: an int, a long, a reference -/
abbrev LV : Type := Int32 ⊕ Int64 ⊕ Option Nat
abbrev vI (x : Int32) : LV := .inl x
abbrev vJ (x : Int64) : LV := .inr (.inl x)
abbrev vA (x : Option Nat) : LV := .inr (.inr x)
def cvv (g : Gl) : LV → Value
  | .inl x => .int x
  | .inr (.inl x) => .long x
  | .inr (.inr o) => va_rf (o.map (ad g))
def aty (t : Nat) : FieldType := match t with
  | 1 => .int
  | 2 => .long
  | 3 => .byte
  | 4 => .object RX2
  | 5 => .object RX1
  | 6 => .array .long
  | _ => .object RX12
def tysG (g : Gl) : List (ClassId × FieldType) := [(gC g 1, aty 1), (gC g 2, aty 2), (gC g 3, aty 3), (gC g 4, aty 4), (gC g 5, aty 5), (gC g 6, aty 6), (gC g 7, aty 7)]
/-- a field's type: 0 int, 1 long, 2 a reference, 3 boolean -/
def fT (c : Nat) : List Nat := [[2, 2, 2, 2, 2, 2, 2, 0, 0, 0, 0], [2, 2, 2, 2, 0, 0, 0], [2, 2, 2, 0, 0], [2, 2, 2, 2, 2, 2, 2, 0, 1, 0, 0, 0, 0, 3], [2, 2, 0, 0, 0, 0], [2], [2, 2, 0], [2, 2, 2, 2, 2, 0, 0, 0, 0, 0, 1], [2, 2, 2, 2, 2, 2, 2, 2, 2, 0, 0, 0],
  [0, 0, 0, 0, 2, 2, 2, 2, 2, 2, 2, 2, 2, 2, 2], [0, 0, 0, 0, 2, 2], [0, 0, 0, 2, 2, 2, 2, 2, 0, 0, 0, 0, 0, 0, 0, 0, 0, 1, 0, 0, 3, 2, 2, 2, 2, 2, 2, 2, 0, 0, 0]].getD c []
def fv (g : Gl) (h : Hp) (a c k : Nat) : Value := match (fT c).getD k 0 with
  | 1 => .long (h.2.2.1 a k)
  | 2 => va_rf ((h.2.2.2 a k).map (ad g))
  | _ => .int (h.2.1 a k)
def fl (g : Gl) (h : Hp) (a c : Nat) : List Value := (List.range (cN c)).map (fv g h a c)
def tcell (g : Gl) (h : Hp) (a : Nat) (q : Nat × Nat) : va_E := match q.1 with
  | 0 => .inr (q.2, fl g h a q.2)
  | 1 => .inl (gC g 1, q.2, .inl (h.2.1 a))
  | 2 => .inl (gC g 2, q.2, .inr (.inl (h.2.2.1 a)))
  | 3 => .inl (gC g 3, q.2, .inl (h.2.1 a))
  | t => .inl (gC g t, q.2, .inr (.inr (.inr (.inr (fun j => (h.2.2.2 a j).map (ad g))))))
def wr (g : Gl) (h : Hp) (H : Heap) : Prop := (∃ r, h.1 = gK g ++ r) ∧ (∀ a, a < 64 → h.2.1 a = gI g a) ∧ 64 ≤ h.1.length ∧ H.size = gB g + (h.1.length - 64) ∧ ∀ a q, 64 ≤ a → h.1[a]? = some q → q.1 < 8 → va_at (gD g) vwCl (ad g a, tcell g h a q) H
def gA (g : Gl) : Nat → Prop := fun q => gB g ≤ q
def gok (g : Gl) : Prop := (gK g).length = 64 ∧ ∀ (a : Nat) (q : Nat × Nat), (gK g)[a]? = some q → q.1 = 1 ∨ 9 ≤ q.1
/-- the JDK's formatter: a reference or null -/
def gF (g : Gl) : Option Nat := if gO g 41 = 0 then none else some 40
def stS (g : Gl) (U : State) (H : Heap) : Prop := vk_S 16 sLn sBy (fun i => gO g (3 + i)) (fun i => gO g (20 + i)) (gA g) U H ∧ va_Z "java/lang/String" "COMPACT_STRINGS" "Z" (.int 1) (gA g) U H ∧ va_Z "jdk/internal/util/Preconditions" "SIOOBE_FORMATTER" "Ljava/util/function/BiFunction;" (cvv g (vA (gF g))) (gA g) U H ∧ (∀ i own k tx, sTx[i]? = some (own, k, tx) → vk_R own k tx (gO g (3 + i)) U) ∧ vx_Zq Bundle.tN "UNASSIGNED_STACK" Bundle.steD (gA g) U H ∧ vx_Zq Bundle.tN "SUPPRESSED_SENTINEL" Bundle.listD (gA g) U H
/-- words of the tables that go from caller to callee each by a law of its own: links between nest mates, arrays of references -/
def nwF : List (String × Nat × String × String × String × String) := [("TurningSumsModel", 237, "TurningSumsModel$Book", "fields", "I", "TurningSumsModel"), ("TurningSumsModel", 267, "TurningSumsModel$Book", "equations", "I", "TurningSumsModel"), ("TurningSumsModel", 301, "TurningSumsModel$Book", "lets", "I", "TurningSumsModel"), ("TurningSumsModel", 218, "TurningSumsModel$Book", "names", "I", "TurningSumsModel"), ("TurningSumsModel", 259, "TurningSumsModel$Book", "field", "[LTurningSumsModel$Field;", "TurningSumsModel"), ("TurningSumsModel", 282, "TurningSumsModel$Book", "equationField", "[I", "TurningSumsModel"), ("TurningSumsModel", 285, "TurningSumsModel$Book", "powers", "[I", "TurningSumsModel"), ("TurningSumsModel", 288, "TurningSumsModel$Book", "is", "[I", "TurningSumsModel"), ("TurningSumsModel", 276, "TurningSumsModel$Book", "times", "[I", "TurningSumsModel"), ("TurningSumsModel", 279, "TurningSumsModel$Book", "up", "[I", "TurningSumsModel"), ("TurningSumsModel", 316, "TurningSumsModel$Book", "letField", "[I", "TurningSumsModel"), ("TurningSumsModel", 314, "TurningSumsModel$Book", "let", "[J", "TurningSumsModel"), ("TurningSumsModel", 215, "TurningSumsModel$Book", "name", "[J", "TurningSumsModel"), ("TurningSumsModel", 221, "TurningSumsModel$Book", "nameSort", "[I", "TurningSumsModel"), ("TurningSumsModel", 224, "TurningSumsModel$Book", "nameNumber", "[I", "TurningSumsModel"), ("TurningSumsModel", 81, "TurningSumsModel$Field", "p", "I", "TurningSumsModel"), ("TurningSumsModel", 59, "TurningSumsModel$Field", "n", "I", "TurningSumsModel"), ("TurningSumsModel", 91, "TurningSumsModel$Field", "root", "I", "TurningSumsModel"), ("TurningSumsModel", 64, "TurningSumsModel$Field", "size", "I", "TurningSumsModel"), ("TurningSumsModel", 84, "TurningSumsModel$Field", "log", "[I", "TurningSumsModel"), ("TurningSumsModel", 67, "TurningSumsModel$Field", "least", "[J", "TurningSumsModel")]
def nwM : List (String × Nat × MethodName × String) := [("TurningSumsModel", 365, ⟨"TurningSumsModel$Book", "<init>", "()V"⟩, "TurningSumsModel"), ("TurningSumsModel$Field", 33, ⟨"TurningSumsModel", "divisor", "(II)I"⟩, "TurningSumsModel"), ("TurningSumsModel$Field", 47, ⟨"TurningSumsModel", "in", "(III)Z"⟩, "TurningSumsModel")]
def va_AA (t : FieldType) (U : State) : Prop := (Cond.arrayOver (.array t)).before #[] U = true
def stN (U : State) : Prop := (∀ a i b n d h, (a, i, b, n, d, h) ∈ nwF → va_Nw (.fieldLinkNest a i b n d h) U) ∧ (∀ a i x h, (a, i, x, h) ∈ nwM → va_Nw (.methodLinkNest a i x h) U) ∧ va_AO RX2 U ∧ va_AO RX1 U ∧ va_AO RX12 U ∧ va_AA .long U
theorem va_AA.moved {t : FieldType} {u U : State} (hvm : u.vm.Alike U.vm) (h : va_AA t u) : va_AA t U := over_moved (a := #[]) (a' := #[]) hvm h
theorem stN_same {u U : State} (hv : U.vm = u.vm) (h : stN u) : stN U := ⟨fun a i b n d z q => va_Nw.same rfl hv.symm (h.1 a i b n d z q), fun a i x z q => va_Nw.same rfl hv.symm (h.2.1 a i x z q), h.2.2.1.moved (by rw [hv]; exact Vm.Alike.refl _), h.2.2.2.1.moved (by rw [hv]; exact Vm.Alike.refl _), h.2.2.2.2.1.moved (by rw [hv]; exact Vm.Alike.refl _), h.2.2.2.2.2.moved (by rw [hv]; exact Vm.Alike.refl _)⟩
theorem stN_warm {u U : State} (hW : u.WarmedH U.vm) (h : stN u) : stN U := ⟨fun a i b n d z q => va_Nw.warmF hW (h.1 a i b n d z q), fun a i x z q => va_Nw.warmM hW (h.2.1 a i x z q), h.2.2.1.moved hW.alike, h.2.2.2.1.moved hW.alike, h.2.2.2.2.1.moved hW.alike, h.2.2.2.2.2.moved hW.alike⟩
def stw (g : Gl) (U : State) (H : Heap) : Prop := va_K (gD g) vwCl (tysG g) U ∧ ((∀ a n, (gK g)[a]? = some (1, n) → va_T .int (gO g a) n (fun j => .int (gI g a j)) (gA g) U H) ∧ stN U) ∧ va_Z "TurningSums$Ring" "LENGTHS" "[I" (.ref (gO g 0)) (gA g) U H ∧ va_Z "TurningSums$Ring" "LEAST" "[I" (.ref (gO g 1)) (gA g) U H ∧ stS g U H
theorem alike_same {u U : State} (hv : U.vm = u.vm) : u.vm.Alike U.vm := by rw [hv]; exact Vm.Alike.refl u.vm
theorem stw_move {g : Gl} {u U : State} {H : Heap} (ha : u.vm.Alike U.vm) (hr : ∀ own k tx a, vk_R own k tx a u → vk_R own k tx a U) (hn : stN u → stN U) (h : stw g u H) : stw g U H :=
  ⟨h.1.moved ha, ⟨fun a n q => (h.2.1.1 a n q).moved ha, hn h.2.1.2⟩, h.2.2.1.moved ha, h.2.2.2.1.moved ha, h.2.2.2.2.1.moved ha, h.2.2.2.2.2.1.moved ha, h.2.2.2.2.2.2.1.moved ha, fun i own k tx q => hr own k tx _ (h.2.2.2.2.2.2.2.1 i own k tx q), h.2.2.2.2.2.2.2.2.1.moved ha, h.2.2.2.2.2.2.2.2.2.moved ha⟩
theorem stw_same {g : Gl} {u U : State} {H : Heap} (hv : U.vm = u.vm) (h : stw g u H) : stw g U H := stw_move (alike_same hv) (fun _ _ _ _ q => vk_R.same hv q) (stN_same hv) h
theorem stw_warm {g : Gl} {u U : State} {H : Heap} (hW : u.WarmedH U.vm) (h : stw g u H) : stw g U H := stw_move hW.alike (fun _ _ _ _ q => vk_R.warm hW q) (stN_warm hW) h
theorem stw_kept {g : Gl} (hg : gok g) {u : State} {H H1 : Heap} (hB : gB g ≤ H.size) (hq : ∀ a : Nat, a < H.size → ¬ gA g a → H1[a]? = H[a]?) (h : stw g u H) : stw g u H1 :=
  ⟨h.1, ⟨fun a n q => (h.2.1.1 a n q).kept hq, h.2.1.2⟩, h.2.2.1.kept hq, h.2.2.2.1.kept hq, h.2.2.2.2.1.kept hq, h.2.2.2.2.2.1.kept hq, h.2.2.2.2.2.2.1.kept hq, h.2.2.2.2.2.2.2.1, h.2.2.2.2.2.2.2.2.1.kept hq, h.2.2.2.2.2.2.2.2.2.kept hq⟩
/-! ===== a method, a frame's context, 'from here the machine does what F does' ===== -/
/-- a method: its class, its name, its code, its locals, what it answers, its room in frames and in words of locals -/
abbrev MD : Type := String × MethodName × ByteArray × Nat × Option FieldType × Nat × Nat
abbrev CX : Type := Gl × Program × Env × Room × State × MethodId × Array Value × List Frame × Method × Code × (State → Prop) × Nat × Nat
def gws : List Cond := lw_tbl.filter goodWord
def retI (r : Option FieldType) : Instr := match r with
  | none => .return_
  | some .long => .lreturn
  | some (.object _) => .areturn
  | some (.array _) => .areturn
  | some _ => .ireturn
def Okc (cx : CX) (y : MD) : Prop := cx.2.1.tables.exec = Jvm.exec ∧ cx.2.2.2.2.2.2.2.2.2.1.code = y.2.2.1 ∧ cx.2.2.2.2.2.2.2.2.2.1.maxLocals = y.2.2.2.1 ∧ cx.2.2.2.2.1.vm.findClass y.1 = some cx.2.2.2.2.2.1.cls ∧ (∀ w ∈ gws, w.before cx.2.2.2.2.2.2.1 cx.2.2.2.2.1 = true) ∧ cx.2.2.2.2.2.2.2.2.1.locks = false ∧ cx.2.2.2.2.2.2.2.2.1.sig.returnType = y.2.2.2.2.1 ∧
  y.2.2.2.2.2.1 ≤ cx.2.2.2.1.frames ∧ y.2.2.2.2.2.2 ≤ cx.2.2.2.1.locals ∧ (y.2.1.name = "<init>" → cx.2.2.2.2.2.2.2.2.1.name = "<init>") ∧ stw cx.1 cx.2.2.2.2.1 cx.2.2.2.2.1.heap ∧ gok cx.1 ∧ gB cx.1 ≤ cx.2.2.2.2.1.heap.size
def Rdy (cx : CX) (h : Hp) (H : Heap) (locs : List Loc) : Prop := wr cx.1 h H ∧ va_S (gA cx.1) cx.2.2.2.2.1.heap H locs ∧ cx.2.2.2.2.2.2.2.2.2.2.2.1 ≤ h.1.length ∧ cx.2.2.2.2.2.2.2.2.2.2.2.2 ≤ hsz h
def Rm (cx : CX) (h' : Hp) : Prop := h'.1.length - cx.2.2.2.2.2.2.2.2.2.2.2.1 ≤ cx.2.2.2.1.cells ∧ hsz h' - cx.2.2.2.2.2.2.2.2.2.2.2.2 ≤ cx.2.2.2.1.slots
def Wc (cx : CX) (h : Hp) (H : Heap) (locs : List Loc) (f : JFrame) : Prop := W cx.2.1 cx.1.1 cx.2.2.1 cx.2.2.2.1 cx.2.2.2.2.1 cx.2.2.2.2.2.1 cx.2.2.2.2.2.2.1 cx.2.2.2.2.2.2.2.1 cx.2.2.2.2.2.2.2.2.1 cx.2.2.2.2.2.2.2.2.2.1 H locs (h.1.length - cx.2.2.2.2.2.2.2.2.2.2.2.1) (hsz h - cx.2.2.2.2.2.2.2.2.2.2.2.2) cx.2.2.2.2.2.2.2.2.2.2.1 f
def Endc {α : Type} (cx : CX) (y : MD) (enc : α → Option LV) (r : α) (h' : Hp) : Prop := ∀ (pc : Nat) (H : Heap) (locs : List Loc) (lsA : Array Slot), decode y.2.2.1 pc = .ok (retI y.2.2.2.2.1, 1) → (∀ ty v, y.2.2.2.2.1 = some ty → enc r = some v → narrow ty (cvv cx.1 v) = cvv cx.1 v) → Rdy cx h' H locs → Wc cx h' H locs (F0 cx.2.2.2.2.2.1 pc lsA (((enc r).toList).map (cvv cx.1)))
def cvl (cx : CX) (ls : List (Nat × LV)) : List (Nat × Value) := ls.map fun q => (q.1, cvv cx.1 q.2)
def Sn {α : Type} (cx : CX) (y : MD) (enc : α → Option LV) (pc : Nat) (ls : List (Nat × LV)) (st : List LV) (F : Mo α) : Prop :=
  Mono F ∧ (Okc cx y → ∀ (h : Hp) (r : α) (h' : Hp), F h = some (r, h') → Endc cx y enc r h' → ∀ (H : Heap) (locs : List Loc) (lsA : Array Slot), Rdy cx h H locs → Rm cx h' → lv_has lsA y.2.2.2.1 (cvl cx ls) → Wc cx h H locs (F0 cx.2.2.2.2.2.1 pc lsA (st.map (cvv cx.1))))
def eI (x : Int32) : Option LV := some (vI x)
def eJ (x : Int64) : Option LV := some (vJ x)
def eA (x : Option Nat) : Option LV := some (vA x)
def eV (_ : Unit) : Option LV := none
