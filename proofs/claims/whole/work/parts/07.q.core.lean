/-! ===== what holds between the calls ===== -/
/-- a book: fields (prime, order); equations (field, terms, result, factors, powers); lets (field, row) -/
abbrev BKD : Type := (Nat × (Nat → Nat × Nat)) × (Nat × (Nat → Nat × Nat × Nat × (Nat → Nat) × (Nat → Nat))) × (Nat × (Nat → Nat × (Nat → Int64)))
def bnf (B : BKD) : Nat := B.1.1
def bfp (B : BKD) (f : Nat) : Nat := (B.1.2 f).1
def bfn (B : BKD) (f : Nat) : Nat := (B.1.2 f).2
def bne (B : BKD) : Nat := B.2.1.1
def bef (B : BKD) (i : Nat) : Nat := (B.2.1.2 i).1
def beT (B : BKD) (i : Nat) : Nat := (B.2.1.2 i).2.1
def ber (B : BKD) (i : Nat) : Nat := (B.2.1.2 i).2.2.1
def bec (B : BKD) (i : Nat) : Nat → Nat := (B.2.1.2 i).2.2.2.1
def beu (B : BKD) (i : Nat) : Nat → Nat := (B.2.1.2 i).2.2.2.2
def bnl (B : BKD) : Nat := B.2.2.1
def blf (B : BKD) (l : Nat) : Nat := (B.2.2.2 l).1
def blr (B : BKD) (l : Nat) : Nat → Int64 := (B.2.2.2 l).2
def okB (B : BKD) : Prop := (bnf B ≤ 4 ∧ ∀ f, f < bnf B → pn (bfp B f) (bfn B f)) ∧ (bne B ≤ 4 ∧ ∀ i, i < bne B → (bef B i < bnf B ∧ okE (bfp B (bef B i)) (beT B i) (bec B i) (beu B i) ∧ ber B i < bfp B (bef B i))) ∧
  (bnl B ≤ 8 ∧ ∀ l, l < bnl B → (blf B l < bnf B ∧ (∀ i, 10 ≤ i → blr B l i = 0) ∧ hug 10 (blr B l) = false))
def CBS (K : List (Nat × Nat)) (A : Nat → Nat → Option Nat) (b : Nat) : Prop :=
  kk K b = (0, 0) ∧ (A b 0 = some (b + 1) ∧ A b 1 = some (b + 2) ∧ A b 2 = some (b + 3) ∧ A b 3 = some (b + 12) ∧ A b 4 = some (b + 13) ∧ A b 5 = some (b + 14) ∧ A b 6 = some (b + 15)) ∧
  (kk K (b + 1) = (4, 4) ∧ kk K (b + 2) = (5, 4) ∧ kk K (b + 3) = (6, 8) ∧ kk K (b + 12) = (1, 8) ∧ kk K (b + 13) = (2, 16) ∧ kk K (b + 14) = (1, 16) ∧ kk K (b + 15) = (1, 16)) ∧
  (∀ l, l < 8 → A (b + 3) l = some (b + 4 + l) ∧ kk K (b + 4 + l) = (2, 10)) ∧ (∀ i, i < 4 → A (b + 1) i = some (b + 16 + 4 * i) ∧ FS K A (b + 16 + 4 * i)) ∧ ∀ i, i < 4 → A (b + 2) i = some (b + 32 + 5 * i) ∧ ES K A (b + 32 + 5 * i)
def CBC (I : Nat → Nat → Int32) (J : Nat → Nat → Int64) (b : Nat) (B : BKD) : Prop :=
  (I b 7 = zn (bnf B) ∧ I b 8 = zn (bne B) ∧ I b 9 = zn (bnl B)) ∧ (∀ f, f < bnf B → FC I (b + 16 + 4 * f) (bfp B f) (bfn B f)) ∧
  (∀ i, i < bne B → EC I (b + 32 + 5 * i) (bfp B (bef B i)) (beT B i) (ber B i) (bec B i) (beu B i)) ∧ ∀ l, l < bnl B → (I (b + 12) l = zn (blf B l) ∧ ∀ i, i < 10 → J (b + 4 + l) i = blr B l i)
def RBC (K : List (Nat × Nat)) (I : Nat → Nat → Int32) (J : Nat → Nat → Int64) (A : Nat → Nat → Option Nat) (b : Nat) (B : BKD) : Prop :=
  (I b 0 = zn (bnf B) ∧ I b 1 = zn (bne B) ∧ I b 2 = zn (bnl B)) ∧ (∀ f, f < bnf B → ∃ fo, A (b + 1) f = some fo ∧ 236 ≤ fo ∧ RFS K A fo ∧ RFC I J fo (bfp B f) (bfn B f)) ∧
  (∀ i, i < bne B → REC I b i (bef B i) (beT B i) (ber B i) (bec B i) (beu B i)) ∧ ∀ l, l < bnl B → (I (b + 7) l = zn (blf B l) ∧ ∀ i, i < 12 → J (b + 8) (l * 12 + i) = blr B l i)
def RBk (K : List (Nat × Nat)) (I : Nat → Nat → Int32) (J : Nat → Nat → Int64) (A : Nat → Nat → Option Nat) (B : BKD) : Prop :=
  (A 224 3 = none ∧ bnf B = 0 ∧ bne B = 0 ∧ bnl B = 0) ∨ ∃ b, A 224 3 = some b ∧ 236 ≤ b ∧ BS K A b ∧ RBC K I J A b B ∧ 1 ≤ bnf B
/-- the class's tape -/
def TS (K : List (Nat × Nat)) (A : Nat → Nat → Option Nat) : Prop := kk K 66 = (0, 7) ∧ (A 66 0 = some 67 ∧ A 66 1 = some 68 ∧ A 66 2 = some 69 ∧ A 66 3 = some 70 ∧ A 66 4 = some 71) ∧ kk K 67 = (1, 900) ∧ kk K 68 = (2, 13) ∧ kk K 69 = (1, 900) ∧ kk K 70 = (2, 900) ∧ kk K 71 = (1, 900)
/-- the rows of a reader: one of each kind for each depth -/
def DS (K : List (Nat × Nat)) (A : Nat → Nat → Option Nat) (a : Nat) : Prop := kk K a = (6, 9) ∧ ∀ d, d < 9 → A a d = some (a + 1 + d) ∧ kk K (a + 1 + d) = (2, 10)
def PS (K : List (Nat × Nat)) (A : Nat → Nat → Option Nat) (sb : Nat) : Prop := kk K 65 = (0, 3) ∧ (A 65 0 = some 66 ∧ A 65 1 = some 72 ∧ A 65 2 = some 74 ∧ A 65 3 = some 84 ∧ A 65 4 = some 94 ∧ A 65 5 = some sb) ∧ TS K A ∧ RS K A 72 ∧ DS K A 74 ∧ DS K A 84 ∧ DS K A 94 ∧ CBS K A sb
def CSh (K : List (Nat × Nat)) (A : Nat → Nat → Option Nat) (nb : Nat) : Prop :=
  (nb = 104 ∨ nb = 172) ∧ kk K 64 = (0, 8) ∧ (A 64 0 = some 65 ∧ A 64 1 = some 160 ∧ A 64 2 = some 162 ∧ A 64 3 = some 165 ∧ A 64 4 = some 168 ∧ A 64 5 = some 169 ∧ A 64 6 = some 170 ∧ A 64 7 = some 171 ∧ A 64 8 = some nb) ∧
  RS K A 160 ∧ GS K A 162 ∧ SS K A 165 ∧ (kk K 168 = (2, 10) ∧ kk K 169 = (2, 10) ∧ kk K 170 = (2, 10) ∧ kk K 171 = (2, 10)) ∧ CBS K A nb ∧ PS K A (276 - nb) ∧ kk K 235 = (2, 1)
/-- the world: the book's place, the book, registers now, undone, redone, images, the tape, the fault and its place -/
abbrev WD : Type := Nat × BKD × RSt × (Nat × (Nat → RSt)) × (Nat × (Nat → RSt)) × (Nat × (Nat → RSt)) × (Nat × (Nat → Nat)) × (Int × Int)
def byS (x : Nat) : Int32 := (zn x).toInt8.toInt32
def Core (kw : Nat → Int64) (K : List (Nat × Nat)) (I : Nat → Nat → Int32) (J : Nat → Nat → Int64) (A : Nat → Nat → Option Nat) (w : WD) : Prop :=
  (CSh K A w.1 ∧ MS K A 224 ∧ OT K I ∧ okB w.2.1) ∧ (CBC I J w.1 w.2.1 ∧ RBk K I J A w.2.1) ∧
  (RGC I J 162 w.2.2.1 w.2.2.2.1.1 w.2.2.2.1.2 w.2.2.2.2.1.1 w.2.2.2.2.1.2 w.2.2.2.2.2.1.1 w.2.2.2.2.2.1.2 ∧ RGR I J 224 w.2.2.1 w.2.2.2.1.1 w.2.2.2.1.2 w.2.2.2.2.1.1 w.2.2.2.2.1.2 w.2.2.2.2.2.1.1 w.2.2.2.2.2.1.2 ∧
    okS (bnf w.2.1) w.2.2.1 ∧ (∀ j, j < w.2.2.2.1.1 → okS (bnf w.2.1) (w.2.2.2.1.2 j)) ∧ (∀ j, j < w.2.2.2.2.1.1 → okS (bnf w.2.1) (w.2.2.2.2.1.2 j)) ∧ (∀ j, j < w.2.2.2.2.2.1.1 → okS (bnf w.2.1) (w.2.2.2.2.2.1.2 j)) ∧ (bnf w.2.1 = 0 → w.2.2.2.1.1 + w.2.2.2.2.1.1 + w.2.2.2.2.2.1.1 = 0)) ∧
  (w.2.2.2.2.2.2.1.1 ≤ 900 ∧ I 66 5 = zn w.2.2.2.2.2.2.1.1 ∧ I 224 8 = zn w.2.2.2.2.2.2.1.1 ∧ ∀ i, i < w.2.2.2.2.2.2.1.1 → (w.2.2.2.2.2.2.1.2 i < 256 ∧ I 67 i = zn (w.2.2.2.2.2.2.1.2 i) ∧ I 227 i = byS (w.2.2.2.2.2.2.1.2 i))) ∧
  (I 64 9 = zi w.2.2.2.2.2.2.2.1 ∧ I 224 15 = zi w.2.2.2.2.2.2.2.1 ∧ I 64 10 = zi w.2.2.2.2.2.2.2.2 ∧ ∀ i, i < 13 → J 68 i = kw i)
def Tr (I : Nat → Nat → Int32) (w : WD) (tr : Nat) : Prop := tr < 100 ∧ I 64 11 = zn tr ∧ I 224 1 = zn tr ∧ I 224 2 = if tr = 4 then zi w.2.2.2.2.2.2.2.2 else -1
def scrI (nb b : Nat) : Prop := b = 165 ∨ b = 166 ∨ b = 167 ∨ b = 228 ∨ b = 229 ∨ b = 230 ∨ b = nb + 19 ∨ b = nb + 23 ∨ b = nb + 27 ∨ b = nb + 31
def scrJ (nb b : Nat) : Prop := b = 161 ∨ b = 168 ∨ b = 169 ∨ b = 170 ∨ b = 171 ∨ b = 225 ∨ b = 226 ∨ b = nb + 35 ∨ b = nb + 36 ∨ b = nb + 40 ∨ b = nb + 41 ∨ b = nb + 45 ∨ b = nb + 46 ∨ b = nb + 50 ∨ b = nb + 51
section
variable {β : Type} {kw : Nat → Int64} {K : List (Nat × Nat)} {I I' : Nat → Nat → Int32} {J J' : Nat → Nat → Int64} {A : Nat → Nat → Option Nat} {w : WD}
theorem EC.mv {e p T r : Nat} {c u : Nat → Nat} (h : EC I e p T r c u) (e0 : I' e = I e) (e1 : I' (e + 1) = I (e + 1)) (e2 : I' (e + 2) = I (e + 2)) : EC I' e p T r c u := by
  obtain ⟨h1, h2, h3, h4⟩ := h
  exact ⟨by rw [e0]; exact h1, by rw [e0]; exact h2, by rw [e0]; exact h3, fun t ht => ⟨by rw [e1]; exact (h4 t ht).1, by rw [e2]; exact (h4 t ht).2⟩⟩
theorem Core.mv (h : Core kw K I J A w) (hI : ∀ b, ¬ scrI w.1 b → b ≠ 64 → b ≠ 224 → I' b = I b) (h64 : ∀ j, j ≠ 11 → I' 64 j = I 64 j) (h224 : ∀ j, 3 ≤ j → I' 224 j = I 224 j) (hJ : ∀ b, ¬ scrJ w.1 b → J' b = J b) : Core kw K I' J' A w := by
  obtain ⟨nb, w⟩ := w
  unfold Core at h ⊢
  unfold scrI at hI
  unfold scrJ at hJ
  dsimp only at h hI hJ ⊢
  obtain ⟨⟨a1, a2, a3, a4⟩, ⟨b1, b2⟩, ⟨c1, c2, c3⟩, ⟨d1, d2, d3, d4⟩, ⟨e1, e2, e3, e4⟩⟩ := h
  have hnb := a1.1
  have ok := a4
  obtain ⟨⟨o1, o2⟩, ⟨o3, o4⟩, ⟨o5, o6⟩⟩ := ok
  refine ⟨⟨a1, a2, ?_, a4⟩, ⟨?_, ?_⟩, ⟨?_, ?_, c3⟩, ⟨d1, ?_, ?_, fun i hi => ?_⟩, ⟨?_, ?_, ?_, fun i hi => ?_⟩⟩
  · obtain ⟨x1, x2, x3, x4⟩ := a3
    exact ⟨x1, x2, fun k => by rw [hI 0 (by omega) (by omega) (by omega)]; exact x3 k, fun k => by rw [hI 1 (by omega) (by omega) (by omega)]; exact x4 k⟩
  · obtain ⟨⟨x1, x2, x3⟩, x4, x5, x6⟩ := b1
    refine ⟨⟨?_, ?_, ?_⟩, fun f hf => ?_, fun i hi => ?_, fun l hl => ⟨?_, fun i hi => ?_⟩⟩
    · rw [hI nb (by omega) (by omega) (by omega)]; exact x1
    · rw [hI nb (by omega) (by omega) (by omega)]; exact x2
    · rw [hI nb (by omega) (by omega) (by omega)]; exact x3
    · exact (x4 f hf).mv (hI _ (by omega) (by omega) (by omega)) (hI _ (by omega) (by omega) (by omega)) (hI _ (by omega) (by omega) (by omega))
    · exact (x5 i hi).mv (hI _ (by omega) (by omega) (by omega)) (hI _ (by omega) (by omega) (by omega)) (hI _ (by omega) (by omega) (by omega))
    · rw [hI _ (by omega) (by omega) (by omega)]; exact (x6 l hl).1
    · rw [hJ _ (by omega)]; exact (x6 l hl).2 i hi
  · rcases b2 with b2 | ⟨b, y1, y2, y3, ⟨⟨x1, x2, x3⟩, x4, x5, x6⟩, y5⟩
    · exact Or.inl b2
    · refine Or.inr ⟨b, y1, y2, y3, ⟨⟨?_, ?_, ?_⟩, fun f hf => ?_, fun i hi => ?_, fun l hl => ⟨?_, fun i hi => ?_⟩⟩, y5⟩
      · rw [hI b (by omega) (by omega) (by omega)]; exact x1
      · rw [hI b (by omega) (by omega) (by omega)]; exact x2
      · rw [hI b (by omega) (by omega) (by omega)]; exact x3
      · obtain ⟨fo, z1, z2, z3, z4⟩ := x4 f hf
        exact ⟨fo, z1, z2, z3, (z4.mvI (hI _ (by omega) (by omega) (by omega)) (hI _ (by omega) (by omega) (by omega))).mv (hJ _ (by omega))⟩
      · obtain ⟨z1, z2, z3, z4⟩ := x5 i hi
        exact ⟨by rw [hI _ (by omega) (by omega) (by omega)]; exact z1, by rw [hI _ (by omega) (by omega) (by omega)]; exact z2, by rw [hI _ (by omega) (by omega) (by omega)]; exact z3, fun t ht => ⟨by rw [hI _ (by omega) (by omega) (by omega)]; exact (z4 t ht).1, by rw [hI _ (by omega) (by omega) (by omega)]; exact (z4 t ht).2⟩⟩
      · rw [hI _ (by omega) (by omega) (by omega)]; exact (x6 l hl).1
      · rw [hJ _ (by omega)]; exact (x6 l hl).2 i hi
  · exact c1.mv (hI _ (by omega) (by omega) (by omega)) (hJ _ (by omega)) (hJ _ (by omega))
  · exact c2.mv (fun j hj => h224 j (by omega)) (hJ _ (by omega)) (hJ _ (by omega)) (hJ _ (by omega)) (hJ _ (by omega))
  · rw [hI _ (by omega) (by omega) (by omega)]; exact d2
  · rw [h224 _ (by omega)]; exact d3
  · rw [hI 67 (by omega) (by omega) (by omega), hI 227 (by omega) (by omega) (by omega)]; exact d4 i hi
  · rw [h64 _ (by omega)]; exact e1
  · rw [h224 _ (by omega)]; exact e2
  · rw [h64 _ (by omega)]; exact e3
  · rw [hJ _ (by omega)]; exact e4 i hi
theorem Core.jj (h : Core kw K I J A w) (hJ : ∀ b, ¬ scrJ w.1 b → J' b = J b) : Core kw K I J' A w := h.mv (fun _ _ _ _ => rfl) (fun _ _ => rfl) (fun _ _ => rfl) hJ
theorem Core.ii (h : Core kw K I J A w) (hI : ∀ b, ¬ scrI w.1 b → I' b = I b) : Core kw K I' J A w := by
  have hnb := h.1.1.1
  refine h.mv (fun b h1 _ _ => hI b h1) (fun j _ => ?_) (fun j _ => ?_) (fun _ _ => rfl)
  · rw [hI 64 (by unfold scrI; omega)]
  · rw [hI 224 (by unfold scrI; omega)]
theorem Core.c {v : Int32} (h : Core kw K I J A w) : Core kw K (st2 I 64 11 v) J A w := h.mv (fun b _ h1 _ => st2_nb h1) (fun j hj => st2_nk hj) (fun j _ => st2_na (by decide)) (fun _ _ => rfl)
theorem Core.m {v : Int32} {i : Nat} (hi : i < 3) (h : Core kw K I J A w) : Core kw K (st2 I 224 i v) J A w := h.mv (fun b _ _ h1 => st2_nb h1) (fun j hj => st2_na (by decide)) (fun j hj => st2_nk (by omega)) (fun _ _ => rfl)
theorem Core.m2 {v x : Int32} (h : Core kw K I J A w) : Core kw K (st2 (st2 I 224 1 v) 224 2 x) J A w := (h.m (by omega)).m (by omega)
theorem Core.nb (h : Core kw K I J A w) : w.1 = 104 ∨ w.1 = 172 := h.1.1.1
/-! the class's book -/
theorem t_fieldAt {b : Nat} {B : BKD} {v : Int} (hB : CBS K A b) (hC : CBC I J b B) (hok : okB B) (hv : -2147483648 ≤ v ∧ v < 2147483648) : f_X0_fieldAt (some b) (zi v) (K, I, J, A) = some (if 0 ≤ v ∧ v < bnf B then some (b + 16 + 4 * v.toNat) else none, (K, I, J, A)) := by
  apply wp_get
  obtain ⟨b0, ⟨a0, a1, a2, a3, a4, a5, a6⟩, ⟨k1, k2, k3, k12, k13, k14, k15⟩, hl, hf, he⟩ := hB
  have hn := hok.1.1
  unfold f_X0_fieldAt
  by_cases h1 : v < 0
  · exact wp_ifp (ilt_t (b := 0) (by omega)) (wp_rt ⟨by rw [if_neg (by omega)], rfl⟩)
  · refine wp_ifn (ilt_f (b := 0) (by omega)) (b_getIv b0 hC.1.1 ?_)
    have e : zi v = zn v.toNat := by rw [zn_zi]; congr 1; omega
    rw [e]
    by_cases h2 : v < bnf B
    · refine wp_ifn (ge_f (by omega)) (b_getA b0 a0 (b_len k1 (by decide) (wp_ifn (ge_f (by omega)) (b_getA b0 a0 (b_ldA k1 (by decide) (by omega) (by omega) (wp_rt ⟨?_, rfl⟩))))))
      rw [if_pos ⟨by omega, h2⟩]
      exact (hf v.toNat (by omega)).1
    · exact wp_ifp (ge_t (by omega)) (wp_rt ⟨by rw [if_neg (by omega)], rfl⟩)
theorem t_equationAt {b : Nat} {B : BKD} {v : Int} (hB : CBS K A b) (hC : CBC I J b B) (hok : okB B) (hv : -2147483648 ≤ v ∧ v < 2147483648) : f_X0_equationAt (some b) (zi v) (K, I, J, A) = some (if 0 ≤ v ∧ v < bne B then some (b + 32 + 5 * v.toNat) else none, (K, I, J, A)) := by
  apply wp_get
  obtain ⟨b0, ⟨a0, a1, a2, a3, a4, a5, a6⟩, ⟨k1, k2, k3, k12, k13, k14, k15⟩, hl, hf, he⟩ := hB
  have hn := hok.2.1.1
  unfold f_X0_equationAt
  by_cases h1 : v < 0
  · exact wp_ifp (ilt_t (b := 0) (by omega)) (wp_rt ⟨by rw [if_neg (by omega)], rfl⟩)
  · refine wp_ifn (ilt_f (b := 0) (by omega)) (b_getIv b0 hC.1.2.1 ?_)
    have e : zi v = zn v.toNat := by rw [zn_zi]; congr 1; omega
    rw [e]
    by_cases h2 : v < bne B
    · refine wp_ifn (ge_f (by omega)) (b_getA b0 a1 (b_len k2 (by decide) (wp_ifn (ge_f (by omega)) (b_getA b0 a1 (b_ldA k2 (by decide) (by omega) (by omega) (wp_rt ⟨?_, rfl⟩))))))
      rw [if_pos ⟨by omega, h2⟩]
      exact (he v.toNat (by omega)).1
    · exact wp_ifp (ge_t (by omega)) (wp_rt ⟨by rw [if_neg (by omega)], rfl⟩)
theorem t_letFieldAt {b : Nat} {B : BKD} {v : Int} (hB : CBS K A b) (hC : CBC I J b B) (hok : okB B) (hv : -2147483648 ≤ v ∧ v < 2147483648) : f_X0_letFieldAt (some b) (zi v) (K, I, J, A) = some (if 0 ≤ v ∧ v < bnl B then zi (blf B v.toNat) else zi (-1), (K, I, J, A)) := by
  apply wp_get
  obtain ⟨b0, ⟨a0, a1, a2, a3, a4, a5, a6⟩, ⟨k1, k2, k3, k12, k13, k14, k15⟩, hl, hf, he⟩ := hB
  have hn := hok.2.2.1
  unfold f_X0_letFieldAt
  by_cases h1 : v < 0
  · exact wp_ifp (ilt_t (b := 0) (by omega)) (wp_rt ⟨by rw [if_neg (by omega)]; exact z_m1, rfl⟩)
  · refine wp_ifn (ilt_f (b := 0) (by omega)) (b_getIv b0 hC.1.2.2 ?_)
    have e : zi v = zn v.toNat := by rw [zn_zi]; congr 1; omega
    rw [e]
    by_cases h2 : v < bnl B
    · refine wp_ifn (ge_f (by omega)) (b_getA b0 a3 (b_eq (t_cellp k12 (by omega) (by omega)) (wp_rt ⟨?_, rfl⟩)))
      rw [if_pos ⟨by omega, h2⟩, (hC.2.2.2 v.toNat (by omega)).1, zn_zi]
    · exact wp_ifp (ge_t (by omega)) (wp_rt ⟨by rw [if_neg (by omega)]; exact z_m1, rfl⟩)
theorem t_letRowAt {b l : Nat} {B : BKD} (hB : CBS K A b) (hC : CBC I J b B) (hok : okB B) (hl : l < bnl B) : f_X0_letRowAt (some b) (zn l) (K, I, J, A) = some (some (b + 4 + l), (K, I, J, A)) := by
  apply wp_get
  obtain ⟨b0, ⟨a0, a1, a2, a3, a4, a5, a6⟩, ⟨k1, k2, k3, k12, k13, k14, k15⟩, hll, hf, he⟩ := hB
  have hn := hok.2.2.1
  unfold f_X0_letRowAt
  exact wp_ifn (lt_f (b := 0) (by omega)) (b_getIv b0 hC.1.2.2 (wp_ifn (ge_f (by omega)) (b_getA b0 a2 (b_eq (t_rowAt k3 (by omega) (by omega)) (wp_rt ⟨(hll l (by omega)).1, rfl⟩)))))
/-! the reference's book -/
theorem t_isField {B : BKD} {v : Int} (hm : kk K 224 = (0, 11)) (hB : RBk K I J A B) (hok : okB B) (hv : -2147483648 ≤ v ∧ v < 2147483648) : f_X13_isField (some 224) (zi v) (K, I, J, A) = some (b01 (decide (0 ≤ v) && decide (v < bnf B)), (K, I, J, A)) := by
  apply wp_get
  have hn := hok.1.1
  unfold f_X13_isField
  rcases hB with ⟨h3, h0, _⟩ | ⟨b, h3, _, hS, hC, h1⟩
  · refine b_getA hm h3 (wp_ifp rfl (wp_rt ⟨?_, rfl⟩))
    rw [show (decide (0 ≤ v) && decide (v < bnf B)) = false from by rw [h0]; simp]; rfl
  · refine b_getA hm h3 (wp_ifn (by simp) ?_)
    by_cases h2 : v < 0
    · refine wp_ifp (ilt_t (b := 0) (by omega)) (wp_rt ⟨?_, rfl⟩)
      rw [show (decide (0 ≤ v) && decide (v < bnf B)) = false from by simp; omega]; rfl
    · refine wp_ifn (ilt_f (b := 0) (by omega)) (b_getA hm h3 (b_getIv hS.1 hC.1.1 ?_))
      have e : zi v = zn v.toNat := by rw [zn_zi]; congr 1; omega
      rw [e]
      by_cases h4 : v < bnf B
      · refine wp_ifn (ge_f (by omega)) (wp_rt ⟨?_, rfl⟩)
        rw [show (decide (0 ≤ v) && decide (v < bnf B)) = true from by simp; omega]; rfl
      · refine wp_ifp (ge_t (by omega)) (wp_rt ⟨?_, rfl⟩)
        rw [show (decide (0 ≤ v) && decide (v < bnf B)) = false from by simp; omega]; rfl
theorem t_isLet {B : BKD} {v : Int} (hm : kk K 224 = (0, 11)) (hB : RBk K I J A B) (hok : okB B) (hv : -2147483648 ≤ v ∧ v < 2147483648) : f_X13_isLet (some 224) (zi v) (K, I, J, A) = some (b01 (decide (0 ≤ v) && decide (v < bnl B)), (K, I, J, A)) := by
  apply wp_get
  have hn := hok.2.2.1
  unfold f_X13_isLet
  rcases hB with ⟨h3, _, _, h0⟩ | ⟨b, h3, _, hS, hC, h1⟩
  · refine b_getA hm h3 (wp_ifp rfl (wp_rt ⟨?_, rfl⟩))
    rw [show (decide (0 ≤ v) && decide (v < bnl B)) = false from by rw [h0]; simp]; rfl
  · refine b_getA hm h3 (wp_ifn (by simp) ?_)
    by_cases h2 : v < 0
    · refine wp_ifp (ilt_t (b := 0) (by omega)) (wp_rt ⟨?_, rfl⟩)
      rw [show (decide (0 ≤ v) && decide (v < bnl B)) = false from by simp; omega]; rfl
    · refine wp_ifn (ilt_f (b := 0) (by omega)) (b_getA hm h3 (b_getIv hS.1 hC.1.2.2 ?_))
      have e : zi v = zn v.toNat := by rw [zn_zi]; congr 1; omega
      rw [e]
      by_cases h4 : v < bnl B
      · refine wp_ifn (ge_f (by omega)) (wp_rt ⟨?_, rfl⟩)
        rw [show (decide (0 ≤ v) && decide (v < bnl B)) = true from by simp; omega]; rfl
      · refine wp_ifp (ge_t (by omega)) (wp_rt ⟨?_, rfl⟩)
        rw [show (decide (0 ≤ v) && decide (v < bnl B)) = false from by simp; omega]; rfl
theorem t_isEquation {B : BKD} {v : Int} (hm : kk K 224 = (0, 11)) (hB : RBk K I J A B) (hok : okB B) (hv : -2147483648 ≤ v ∧ v < 2147483648) : f_X13_isEquation (some 224) (zi v) (K, I, J, A) = some (b01 (decide (0 ≤ v) && decide (v < bne B)), (K, I, J, A)) := by
  apply wp_get
  have hn := hok.2.1.1
  unfold f_X13_isEquation
  rcases hB with ⟨h3, _, h0, _⟩ | ⟨b, h3, _, hS, hC, h1⟩
  · refine b_getA hm h3 (wp_ifp rfl (wp_rt ⟨?_, rfl⟩))
    rw [show (decide (0 ≤ v) && decide (v < bne B)) = false from by rw [h0]; simp]; rfl
  · refine b_getA hm h3 (wp_ifn (by simp) ?_)
    by_cases h2 : v < 0
    · refine wp_ifp (ilt_t (b := 0) (by omega)) (wp_rt ⟨?_, rfl⟩)
      rw [show (decide (0 ≤ v) && decide (v < bne B)) = false from by simp; omega]; rfl
    · refine wp_ifn (ilt_f (b := 0) (by omega)) (b_getA hm h3 (b_getIv hS.1 hC.1.2.1 ?_))
      have e : zi v = zn v.toNat := by rw [zn_zi]; congr 1; omega
      rw [e]
      by_cases h4 : v < bne B
      · refine wp_ifn (ge_f (by omega)) (wp_rt ⟨?_, rfl⟩)
        rw [show (decide (0 ≤ v) && decide (v < bne B)) = true from by simp; omega]; rfl
      · refine wp_ifp (ge_t (by omega)) (wp_rt ⟨?_, rfl⟩)
        rw [show (decide (0 ≤ v) && decide (v < bne B)) = false from by simp; omega]; rfl
/-- a field that is there: the reference's object -/
theorem RBk.fld {B : BKD} {f : Nat} (h : RBk K I J A B) (hf : f < bnf B) : ∃ b fo, A 224 3 = some b ∧ 236 ≤ b ∧ BS K A b ∧ RBC K I J A b B ∧ A (b + 1) f = some fo ∧ 236 ≤ fo ∧ RFS K A fo ∧ RFC I J fo (bfp B f) (bfn B f) := by
  rcases h with ⟨_, h0, _⟩ | ⟨b, h3, hb, hS, hC, _⟩
  · omega
  · obtain ⟨fo, z1, z2, z3, z4⟩ := hC.2.1 f hf
    exact ⟨b, fo, h3, hb, hS, hC, z1, z2, z3, z4⟩
/-- book.field[f] -/
theorem r_fld {Q : β → Hp → Prop} {G : Option Nat → Mo β} {b f fo : Nat} (hm : kk K 224 = (0, 11)) (h3 : A 224 3 = some b) (hS : BS K A b) (hfo : A (b + 1) f = some fo) (hf : f < 4) (w : wp (G (some fo)) Q (K, I, J, A)) : wp (mBd (mGetA 11 3 (some 224)) (fun r2 => mBd (mGetA 9 4 r2) (fun r3 => mBd (mLdA 7 r3 (zn f)) G))) Q (K, I, J, A) := by
  refine b_getA hm h3 (b_getA hS.1 hS.2.1.1 (b_ldA hS.2.2.1.1 (by decide) hf (by omega) ?_))
  rw [hfo]; exact w
theorem t_isOrder {B : BKD} {v a : Int} (hm : kk K 224 = (0, 11)) (hB : RBk K I J A B) (hok : okB B) (hv : -2147483648 ≤ v ∧ v < 2147483648) (ha : -2147483648 ≤ a ∧ a < 2147483648) : f_X13_isOrder (some 224) (zi v) (zi a) (K, I, J, A) = some (b01 (decide (0 ≤ v) && decide (v < bnf B) && decide (0 ≤ a) && decide (a < bfn B v.toNat)), (K, I, J, A)) := by
  apply wp_get
  unfold f_X13_isOrder
  refine b_ck hm (b_eq (t_isField hm hB hok hv) ?_)
  by_cases h : 0 ≤ v ∧ v < bnf B
  · rw [show (decide (0 ≤ v) && decide (v < bnf B)) = true from by simp; omega, Bool.true_and]
    refine wp_ifn (by decide) ?_
    obtain ⟨b, fo, h3, hb, hS, hC, hfo, hfo2, hF, hRC⟩ := hB.fld (show v.toNat < bnf B by omega)
    have hpn := hok.1.2 _ (show v.toNat < bnf B by omega)
    have hr := pn_rng hpn
    have hn := hok.1.1
    have e : zi v = zn v.toNat := by rw [zn_zi]; congr 1; omega
    rw [e]
    by_cases h2 : a < 0
    · refine wp_ifp (ilt_t (b := 0) (by omega)) (wp_rt ⟨?_, rfl⟩)
      rw [show (decide (0 ≤ a) && decide (a < bfn B v.toNat)) = false from by simp; omega]; rfl
    · refine wp_ifn (ilt_f (b := 0) (by omega)) (r_fld hm h3 hS hfo (by omega) (b_getIv hF.1 hRC.1.2.1 ?_))
      have e2 : zi a = zn a.toNat := by rw [zn_zi]; congr 1; omega
      rw [e2]
      by_cases h4 : a < bfn B v.toNat
      · refine wp_ifn (ge_f (by omega)) (wp_rt ⟨?_, rfl⟩)
        rw [show (decide (0 ≤ a) && decide (a < bfn B v.toNat)) = true from by simp; omega]; rfl
      · refine wp_ifp (ge_t (by omega)) (wp_rt ⟨?_, rfl⟩)
        rw [show (decide (0 ≤ a) && decide (a < bfn B v.toNat)) = false from by simp; omega]; rfl
  · rw [show (decide (0 ≤ v) && decide (v < bnf B)) = false from by simp; omega, Bool.false_and, Bool.false_and]
    exact wp_ifp (by decide) (wp_rt ⟨rfl, rfl⟩)
def areO (B : BKD) (v a b : Int) : Bool := decide (0 ≤ v) && decide (v < bnf B) && decide (0 ≤ a) && decide (a < bfn B v.toNat) && decide (0 ≤ b) && decide (b < bfn B v.toNat)
theorem t_areOrders {B : BKD} {v a b : Int} (hm : kk K 224 = (0, 11)) (hB : RBk K I J A B) (hok : okB B) (hv : -2147483648 ≤ v ∧ v < 2147483648) (ha : -2147483648 ≤ a ∧ a < 2147483648) (hb : -2147483648 ≤ b ∧ b < 2147483648) : f_X13_areOrders (some 224) (zi v) (zi a) (zi b) (K, I, J, A) = some (b01 (areO B v a b), (K, I, J, A)) := by
  apply wp_get
  unfold f_X13_areOrders areO
  refine b_ck hm (b_eq (t_isOrder hm hB hok hv ha) ?_)
  cases h : (decide (0 ≤ v) && decide (v < bnf B) && decide (0 ≤ a) && decide (a < bfn B v.toNat)) with
  | false => exact wp_ifp (by decide) (wp_rt ⟨by simp; rfl, rfl⟩)
  | true =>
    refine wp_ifn (by decide) (b_ck hm (b_eq (t_isOrder hm hB hok hv hb) ?_))
    have h' : (decide (0 ≤ v) && decide (v < bnf B)) = true := by
      simp only [Bool.and_eq_true] at h ⊢
      exact h.1.1
    rw [h', Bool.true_and]
    cases h2 : (decide (0 ≤ b) && decide (b < bfn B v.toNat)) with
    | false => exact wp_ifp (by decide) (wp_rt ⟨rfl, rfl⟩)
    | true => exact wp_ifn (by decide) (wp_rt ⟨rfl, rfl⟩)
end
