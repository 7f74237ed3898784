def sLn : List Nat := [58, 7, 13, 5, 8, 3, 5, 2, 4, 2, 2, 2, 1, 3, 4, 4]
def sBy : List (List Int32) := [[102, 105, 101, 108, 100, 32, 101, 113, 117, 97, 116, 105, 111, 110, 32, 108, 101, 116, 32, 111, 114, 100, 101, 114, 32, 105, 110, 32, 119, 105, 116, 104, 32, 116, 111, 32, 105, 115, 32, 98, 101, 32, 122, 32, 115, 117, 109, 32, 99, 111, 110, 106, 32, 116, 117, 114, 110, 32], [59, 44, 43, 45, 42, 40, 41], [110, 111, 32, 115, 117, 99, 104, 32, 112, 111, 119, 101, 114], [102, 105, 101, 108, 100], [101, 113, 117, 97, 116, 105, 111, 110], [108, 101, 116], [111, 114, 100, 101, 114], [105, 110], [119, 105, 116, 104], [116, 111], [105, 115], [98, 101], [122], [115, 117, 109], [99, 111, 110, 106], [116, 117, 114, 110]]
def sTx : List (String × Nat × String) := [("TurningSums$Tape", 48, "field equation let order in with to is be z sum conj turn "), ("TurningSums$Tape", 103, ";,+-*()"), ("TurningSums", 308, "no such power"), ("TurningSumsModel", 176, "field"), ("TurningSumsModel", 178, "equation"), ("TurningSumsModel", 180, "let"), ("TurningSumsModel", 182, "order"), ("TurningSumsModel", 184, "in"), ("TurningSumsModel", 185, "with"), ("TurningSumsModel", 187, "to"), ("TurningSumsModel", 189, "is"), ("TurningSumsModel", 191, "be"), ("TurningSumsModel", 193, "z"), ("TurningSumsModel", 195, "sum"), ("TurningSumsModel", 197, "conj"), ("TurningSumsModel", 199, "turn")]
abbrev Hp : Type := List (Nat × Nat) × (Nat → Nat → Int32) × (Nat → Nat → Int64) × (Nat → Nat → Option Nat)
abbrev Mo (α : Type) : Type := Hp → Option (α × Hp)
def st1 {α : Type} (f : Nat → α) (a : Nat) (x : α) : Nat → α := fun b => if b = a then x else f b
def kd (h : Hp) (a : Nat) : Nat × Nat := (h.1[a]?).getD (99, 0)
def mRt {α : Type} (x : α) : Mo α := fun h => some (x, h)
def mBad {α : Type} : Mo α := fun _ => none
def mBd {α β : Type} (F : Mo α) (G : α → Mo β) : Mo β := fun h => match F h with
  | none => none
  | some q => G q.1 q.2
def mNm {α β : Type} (x : α) (G : α → Mo β) : Mo β := G x
def mRq {α : Type} (c : Prop) [Decidable c] (F : Mo α) : Mo α := if c then F else mBad
def cN (c : Nat) : Nat := [11, 7, 5, 14, 6, 1, 3, 11, 12, 15, 6, 31].getD c 0
def mGetI (c k : Nat) (o : Option Nat) : Mo Int32 := fun h => match o with
  | none => none
  | some a => if kd h a = (0, c) then some (h.2.1 a k, h) else none
def mGetJ (c k : Nat) (o : Option Nat) : Mo Int64 := fun h => match o with
  | none => none
  | some a => if kd h a = (0, c) then some (h.2.2.1 a k, h) else none
def mGetA (c k : Nat) (o : Option Nat) : Mo (Option Nat) := fun h => match o with
  | none => none
  | some a => if kd h a = (0, c) then some (h.2.2.2 a k, h) else none
def mPutI (c k : Nat) (o : Option Nat) (x : Int32) : Mo Unit := fun h => match o with
  | none => none
  | some a => if kd h a = (0, c) ∧ 64 ≤ a then some ((), (h.1, st1 h.2.1 a (st1 (h.2.1 a) k x), h.2.2.1, h.2.2.2)) else none
def mPutZ (c k : Nat) (o : Option Nat) (x : Int32) : Mo Unit := fun h => match o with
  | none => none
  | some a => if (kd h a = (0, c) ∧ 64 ≤ a) ∧ (x = 0 ∨ x = 1) then some ((), (h.1, st1 h.2.1 a (st1 (h.2.1 a) k x), h.2.2.1, h.2.2.2)) else none
def mPutJ (c k : Nat) (o : Option Nat) (x : Int64) : Mo Unit := fun h => match o with
  | none => none
  | some a => if kd h a = (0, c) ∧ 64 ≤ a then some ((), (h.1, h.2.1, st1 h.2.2.1 a (st1 (h.2.2.1 a) k x), h.2.2.2)) else none
def mPutA (c k : Nat) (o : Option Nat) (x : Option Nat) : Mo Unit := fun h => match o with
  | none => none
  | some a => if kd h a = (0, c) ∧ 64 ≤ a then some ((), (h.1, h.2.1, h.2.2.1, st1 h.2.2.2 a (st1 (h.2.2.2 a) k x))) else none
def mLdI (t : Nat) (o : Option Nat) (i : Int32) : Mo Int32 := fun h => match o with
  | none => none
  | some a => if (kd h a).1 = t ∧ ¬ (i < 0 ∨ (kd h a).2 ≤ i.toNatClampNeg) then some (h.2.1 a i.toNatClampNeg, h) else none
def mLdJ (o : Option Nat) (i : Int32) : Mo Int64 := fun h => match o with
  | none => none
  | some a => if (kd h a).1 = 2 ∧ ¬ (i < 0 ∨ (kd h a).2 ≤ i.toNatClampNeg) then some (h.2.2.1 a i.toNatClampNeg, h) else none
def mLdA (t : Nat) (o : Option Nat) (i : Int32) : Mo (Option Nat) := fun h => match o with
  | none => none
  | some a => if ((kd h a).1 = t ∧ 4 ≤ t ∧ t < 8) ∧ ¬ (i < 0 ∨ (kd h a).2 ≤ i.toNatClampNeg) then some (h.2.2.2 a i.toNatClampNeg, h) else none
def mStI (o : Option Nat) (i x : Int32) : Mo Unit := fun h => match o with
  | none => none
  | some a => if ((kd h a).1 = 1 ∧ 64 ≤ a) ∧ ¬ (i < 0 ∨ (kd h a).2 ≤ i.toNatClampNeg) then some ((), (h.1, st1 h.2.1 a (st1 (h.2.1 a) i.toNatClampNeg x), h.2.2.1, h.2.2.2)) else none
def mStB (o : Option Nat) (i x : Int32) : Mo Unit := fun h => match o with
  | none => none
  | some a => if ((kd h a).1 = 3 ∧ 64 ≤ a) ∧ ¬ (i < 0 ∨ (kd h a).2 ≤ i.toNatClampNeg) then some ((), (h.1, st1 h.2.1 a (st1 (h.2.1 a) i.toNatClampNeg x.toInt8.toInt32), h.2.2.1, h.2.2.2)) else none
def mStJ (o : Option Nat) (i : Int32) (x : Int64) : Mo Unit := fun h => match o with
  | none => none
  | some a => if ((kd h a).1 = 2 ∧ 64 ≤ a) ∧ ¬ (i < 0 ∨ (kd h a).2 ≤ i.toNatClampNeg) then some ((), (h.1, h.2.1, st1 h.2.2.1 a (st1 (h.2.2.1 a) i.toNatClampNeg x), h.2.2.2)) else none
def aC (t : Nat) : Nat := if t = 4 then 2 else if t = 5 then 1 else 10
def mStA (t : Nat) (o : Option Nat) (i : Int32) (x : Option Nat) : Mo Unit := fun h => match o, x with
  | some a, some v => if (((kd h a).1 = t ∧ (t = 4 ∨ t = 5 ∨ t = 7)) ∧ 64 ≤ a ∧ kd h v = (0, aC t) ∧ 64 ≤ v) ∧ ¬ (i < 0 ∨ (kd h a).2 ≤ i.toNatClampNeg) then some ((), (h.1, h.2.1, h.2.2.1, st1 h.2.2.2 a (st1 (h.2.2.2 a) i.toNatClampNeg (some v)))) else none
  | _, _ => none
def mLen (o : Option Nat) : Mo Int32 := fun h => match o with
  | none => none
  | some a => if 1 ≤ (kd h a).1 ∧ (kd h a).1 < 8 then some (Int32.ofNat (kd h a).2, h) else none
def hNew (h : Hp) (q : Nat × Nat) : Hp := (h.1 ++ [q], st1 h.2.1 h.1.length (fun _ => 0), st1 h.2.2.1 h.1.length (fun _ => 0), st1 h.2.2.2 h.1.length (fun _ => none))
def mNew (c : Nat) : Mo (Option Nat) := fun h => if c < 12 then some (some h.1.length, hNew h (0, c)) else none
def mNewA (t : Nat) (n : Int32) : Mo (Option Nat) := fun h => if (1 ≤ t ∧ t < 8 ∧ ¬ t = 6) ∧ ¬ n < 0 ∧ n.toNatClampNeg ≤ 10000 then some (some h.1.length, hNew h (t, n.toNatClampNeg)) else none
def hNews (h : Hp) (q : Nat × Nat) : Nat → Hp
  | 0 => h
  | n + 1 => hNew (hNews h q n) q
def mNewM (n k : Int32) : Mo (Option Nat) := fun h => if (¬ n < 0 ∧ n.toNatClampNeg ≤ 100) ∧ ¬ k < 0 ∧ k.toNatClampNeg ≤ 100 then
    some (some h.1.length, ((hNews (hNew h (6, n.toNatClampNeg)) (2, k.toNatClampNeg) n.toNatClampNeg).1, (hNews (hNew h (6, n.toNatClampNeg)) (2, k.toNatClampNeg) n.toNatClampNeg).2.1, (hNews (hNew h (6, n.toNatClampNeg)) (2, k.toNatClampNeg) n.toNatClampNeg).2.2.1,
      st1 (hNews (hNew h (6, n.toNatClampNeg)) (2, k.toNatClampNeg) n.toNatClampNeg).2.2.2 h.1.length (fun j => if j < n.toNatClampNeg then some (h.1.length + 1 + j) else none))) else none
def lq1 {α ρ : Type} (b : (α → Mo ρ) → α → Mo ρ) : Nat → α → Mo ρ
  | 0 => fun _ => mBad
  | n + 1 => b (lq1 b n)
def lq2 {α β ρ : Type} (b : (α → β → Mo ρ) → α → β → Mo ρ) : Nat → α → β → Mo ρ
  | 0 => fun _ _ => mBad
  | n + 1 => b (lq2 b n)
def lq3 {α β γ ρ : Type} (b : (α → β → γ → Mo ρ) → α → β → γ → Mo ρ) : Nat → α → β → γ → Mo ρ
  | 0 => fun _ _ _ => mBad
  | n + 1 => b (lq3 b n)
def lq4 {α β γ δ ρ : Type} (b : (α → β → γ → δ → Mo ρ) → α → β → γ → δ → Mo ρ) : Nat → α → β → γ → δ → Mo ρ
  | 0 => fun _ _ _ _ => mBad
  | n + 1 => b (lq4 b n)
def lq0 {ρ : Type} (b : Mo ρ → Mo ρ) : Nat → Mo ρ
  | 0 => mBad
  | n + 1 => b (lq0 b n)
def fuel : Nat := 1000000
def ksz (q : Nat × Nat) : Nat := if q.1 = 0 then cN q.2 else q.2
def hsz (h : Hp) : Nat := (h.1.map ksz).sum
def irem (z x : Int32) : Int32 := z - z / x * x
def lrem (z x : Int64) : Int64 := z - z / x * x
def mCk {α : Type} (c : Nat) (o : Option Nat) (F : Mo α) : Mo α := fun h => match o with
  | none => none
  | some a => if kd h a = (0, c) then F h else none
def mCkS {α : Type} (o : Option Nat) (F : Mo α) : Mo α := fun h => match o with
  | none => none
  | some a => if (kd h a).1 = 9 ∧ a = 3 + (kd h a).2 ∧ (kd h a).2 < 16 then F h else none
def mStrVal (o : Option Nat) : Mo (Option Nat) := fun h => match o with
  | none => none
  | some a => if (kd h a).1 = 9 ∧ a = 3 + (kd h a).2 ∧ (kd h a).2 < 16 then some (some (20 + (kd h a).2), h) else none
def mStrCod (o : Option Nat) : Mo Int32 := fun h => match o with
  | none => none
  | some a => if (kd h a).1 = 9 ∧ a = 3 + (kd h a).2 ∧ (kd h a).2 < 16 then some (0, h) else none
def mLenS (o : Option Nat) : Mo Int32 := fun h => match o with
  | none => none
  | some a => if (kd h a).1 = 10 ∧ a = 20 + (kd h a).2 ∧ (kd h a).2 < 16 then some (Int32.ofNat (sLn.getD (kd h a).2 0), h) else none
def mLdS (o : Option Nat) (i : Int32) : Mo Int32 := fun h => match o with
  | none => none
  | some a => if ((kd h a).1 = 10 ∧ a = 20 + (kd h a).2 ∧ (kd h a).2 < 16) ∧ ¬ (i < 0 ∨ sLn.getD (kd h a).2 0 ≤ i.toNatClampNeg) then some ((sBy.getD (kd h a).2 []).getD i.toNatClampNeg 0, h) else none
