/-! ===== the world at the law's start ===== -/
/-- the kinds of the old cells: LENGTHS, LEAST, the script (nothing is said of it here), 16 Strings, their bytes -/
def K00 : List (Nat × Nat) := [(1, 13), (1, 143), (11, 0)] ++ (List.range 16).map (fun i => (9, i)) ++ [(12, 0)] ++ (List.range 16).map (fun i => (10, i)) ++ List.replicate 28 (12, 0)
def lenL : List Int32 := [0, 1, 1, 2, 2, 4, 2, 6, 4, 6, 4, 10, 4]
def leastL : List Int32 := [0, 0, 0, 0, 0, 0, 0, 0, 0, 0, 0, -1, 1, 0, 0, 0, 0, 0, 0, 0, 0, 0, 1, 1, 0, 0, 0, 0, 0, 0, 0, 0, 0, 1, 1, 1, 0, 0, 0, 0, 0, 0, 0, 0, 1, 0, 1, 0, 0, 0, 0, 0, 0, 0, 0, 1, 1, 1, 1, 1, 0, 0, 0, 0, 0, 0, 1, -1, 1, 0, 0, 0, 0, 0, 0, 0, 0, 1, 1, 1, 1, 1, 1, 1, 0, 0, 0, 0, 1, 0, 0, 0, 1, 0, 0, 0, 0, 0, 0, 1, 0, 0, 1, 0, 0, 1, 0, 0, 0, 0, 1, -1, 1, -1, 1, 0, 0, 0, 0, 0, 0, 1, 1, 1, 1, 1, 1, 1, 1, 1, 1, 1, 1, 0, -1, 0, 1, 0, 0, 0, 0, 0, 0]
def I00 : Nat → Nat → Int32 := fun a k => if a = 0 then lenL.getD k 0 else if a = 1 then leastL.getD k 0 else 0
def h00 : Hp := (K00, I00, fun _ _ => 0, fun _ _ => none)
def sOwn (i : Nat) : String := (sTx.getD i ("", 0, "")).1
def sIdx (i : Nat) : Nat := (sTx.getD i ("", 0, "")).2.1
def sTm (i : Nat) : Term := .string (sOwn i) (sIdx i)
def fN : List Cond := flatC (Jvm.Cond.and given_1 narrow_1)
theorem f_ex : ∀ i, i < 16 → Cond.exactly (sTm i) "java/lang/String" ∈ fN := by decide +kernel
theorem f_co : ∀ i, i < 16 → Cond.eq (.field (sTm i) "java/lang/String" "coder" "B") (.int 0) ∈ fN := by decide +kernel
theorem f_ar : ∀ i, i < 16 → Cond.arrayOf (.field (sTm i) "java/lang/String" "value" "[B") .byte ∈ fN := by decide +kernel
theorem f_le : ∀ i, i < 16 → Cond.eq (.length (.field (sTm i) "java/lang/String" "value" "[B")) (.int (Int32.ofNat (sLn.getD i 0))) ∈ fN := by decide +kernel
def sPos : List Nat := [187, 249, 261, 280, 292, 308, 320, 335, 348, 364, 379, 395, 412, 429, 449, 471]
theorem fN_el : ∀ i, i < 16 → (fN.drop (sPos.getD i 0 + 2)).take (sLn.getD i 0) = (List.range (sLn.getD i 0)).map (fun j => Cond.eq (.elem (.field (sTm i) "java/lang/String" "value" "[B") (.int (Int32.ofNat j))) (.int ((sBy.getD i []).getD j 0))) := by decide +kernel
theorem f_el (i : Nat) (hi : i < 16) (j : Nat) (hj : j < sLn.getD i 0) : Cond.eq (.elem (.field (sTm i) "java/lang/String" "value" "[B") (.int (Int32.ofNat j))) (.int ((sBy.getD i []).getD j 0)) ∈ fN :=
  List.mem_of_mem_drop (List.mem_of_mem_take (by rw [fN_el i hi]; exact List.mem_map.mpr ⟨j, List.mem_range.mpr hj, rfl⟩))
theorem fN_ne : ∀ i, i < 16 → (fN.drop (sPos.getD i 0 + 2 + sLn.getD i 0)).take i = (List.range i).map (fun k => Cond.not (Cond.eq (sTm k) (sTm i))) := by decide +kernel
theorem f_ne (i : Nat) (hi : i < 16) (j : Nat) (hj : j < 16) (hij : i ≠ j) : Cond.not (Cond.eq (sTm i) (sTm j)) ∈ fN ∨ Cond.not (Cond.eq (sTm j) (sTm i)) ∈ fN := by
  rcases Nat.lt_or_gt_of_ne hij with h | h
  · exact Or.inl (List.mem_of_mem_drop (List.mem_of_mem_take (by rw [fN_ne j hj]; exact List.mem_map.mpr ⟨i, List.mem_range.mpr h, rfl⟩)))
  · exact Or.inr (List.mem_of_mem_drop (List.mem_of_mem_take (by rw [fN_ne i hi]; exact List.mem_map.mpr ⟨j, List.mem_range.mpr h, rfl⟩)))
theorem f_sr : ∀ i, i < 16 → Cond.stringRef (sOwn i) (sIdx i) (sTx.getD i ("", 0, "")).2.2 ∈ lw_tbl := by decide +kernel
theorem f_len : ∀ j, j < 13 → Cond.eq (.elem (.static "TurningSums$Ring" "LENGTHS" "[I") (.int (Int32.ofNat j))) (.int (lenL.getD j 0)) ∈ fN := by decide +kernel
theorem fN_lea : (fN.drop 28).take 143 = (List.range 143).map (fun j => Cond.eq (.elem (.static "TurningSums$Ring" "LEAST" "[I") (.int (Int32.ofNat j))) (.int (leastL.getD j 0))) := by decide +kernel
theorem f_lea (j : Nat) (hj : j < 143) : Cond.eq (.elem (.static "TurningSums$Ring" "LEAST" "[I") (.int (Int32.ofNat j))) (.int (leastL.getD j 0)) ∈ fN :=
  List.mem_of_mem_drop (List.mem_of_mem_take (by rw [fN_lea]; exact List.mem_map.mpr ⟨j, List.mem_range.mpr hj, rfl⟩))
theorem K00_len : K00.length = 64 := by decide +kernel
theorem K00_ints : ∀ a, a < 64 → ((K00.getD a (0, 0)).1 = 1 → (a = 0 ∧ (K00.getD a (0, 0)).2 = 13) ∨ (a = 1 ∧ (K00.getD a (0, 0)).2 = 143)) := by decide +kernel
theorem cl_inst : ∀ c, c < 12 → ∃ q n, vwCl[c]? = some q ∧ Cond.instantiable q.1 n ∈ lw_tbl := by
  intro c hc
  rcases c with _ | _ | _ | _ | _ | _ | _ | _ | _ | _ | _ | _ | c
  · exact ⟨_, 11, rfl, by decide +kernel⟩
  · exact ⟨_, 7, rfl, by decide +kernel⟩
  · exact ⟨_, 5, rfl, by decide +kernel⟩
  · exact ⟨_, 14, rfl, by decide +kernel⟩
  · exact ⟨_, 6, rfl, by decide +kernel⟩
  · exact ⟨_, 1, rfl, by decide +kernel⟩
  · exact ⟨_, 3, rfl, by decide +kernel⟩
  · exact ⟨_, 11, rfl, by decide +kernel⟩
  · exact ⟨_, 12, rfl, by decide +kernel⟩
  · exact ⟨_, 15, rfl, by decide +kernel⟩
  · exact ⟨_, 6, rfl, by decide +kernel⟩
  · exact ⟨_, 31, rfl, by decide +kernel⟩
  · omega
theorem nw_f : ∀ q ∈ nwF, Cond.fieldLinkNest q.1 q.2.1 q.2.2.1 q.2.2.2.1 q.2.2.2.2.1 q.2.2.2.2.2 ∈ lw_tbl := by decide +kernel
theorem nw_m : ∀ q ∈ nwM, Cond.methodLinkNest q.1 q.2.1 q.2.2.1 q.2.2.2 ∈ lw_tbl := by decide +kernel
theorem nw_a1 : Cond.arrayOver (.object RX2) ∈ lw_tbl := by decide +kernel
theorem nw_a2 : Cond.arrayOver (.object RX1) ∈ lw_tbl := by decide +kernel
theorem nw_a3 : Cond.arrayOver (.object RX12) ∈ lw_tbl := by decide +kernel
theorem nw_a4 : Cond.arrayOver (.array .long) ∈ lw_tbl := by decide +kernel
theorem nw_a5 : Cond.arrayClass .int ∈ lw_tbl := by decide +kernel
theorem nw_a6 : Cond.arrayClass .long ∈ lw_tbl := by decide +kernel
theorem nw_a7 : Cond.arrayClass .byte ∈ lw_tbl := by decide +kernel
/-- an array class out of the tables' word of it -/
theorem arc_of {args : Array Value} {s : State} {t : FieldType} (h : (Cond.arrayClass t).before args s = true) (ho : ∀ C, t ≠ .object C) : ∃ c : ClassId, ArrOfT s c t ∧ va_RA s c t := by
  obtain ⟨c, k, comp, h1, h2, h3⟩ := Cond.arrayClass_spec h
  refine ⟨c, fun N z => ⟨(fun q hq => by cases hq), k, h2, comp, h3⟩, ?_⟩
  cases t <;> first | exact h1 | exact absurd rfl (ho _)
theorem aro_of {args : Array Value} {s : State} {C : String} (h : (Cond.arrayOver (.object C)).before args s = true) : ∃ c : ClassId, ArrOfT s c (.object C) ∧ va_RA s c (.object C) := by
  obtain ⟨comp, c, k, h1, h2, h3, h4, h5⟩ := Cond.arrayOver_spec h
  exact ⟨c, fun N z => ⟨(fun q hq => by cases hq), k, h3, comp, h4⟩, k, comp, h3, h4, h1, h5⟩
theorem ara_of {args : Array Value} {s : State} {t : FieldType} (h : (Cond.arrayOver (.array t)).before args s = true) : ∃ c : ClassId, ArrOfT s c (.array t) ∧ va_RA s c (.array t) := by
  obtain ⟨comp, c, k, h1, h2, h3, h4, h5⟩ := arrayOverA_spec h
  exact ⟨c, fun N z => ⟨(fun q hq => by cases hq), k, h3, comp, h4⟩, h5⟩
theorem ev_of_eq {args : Array Value} {s : State} {t : Term} {v : Int32} (h : (Cond.eq t (.int v)).before args s = true) : t.eval args s none [] s = some (.int v) := Cond.eq_int h rfl
theorem cl_known {args : Array Value} {s : State} (hts : ∀ w ∈ lw_tbl, w.before args s = true) : ∃ D : va_G, ∀ (c : Nat) (q : vw_C), vwCl[c]? = some q → u_Kn s q.1 q.2.1 q.2.2 (D.1 c) (D.2 c) := by
  have key : ∀ c : Nat, ∃ (z : ClassId × (Nat → Nat)), ∀ q : vw_C, vwCl[c]? = some q → u_Kn s q.1 q.2.1 q.2.2 z.1 z.2 := by
    intro c
    by_cases hc : c < 12
    · obtain ⟨q, n, hq, hi⟩ := cl_inst c hc
      have hin : ∀ w ∈ u_ws q.1 q.2.1 q.2.2, w ∈ lw_tbl := by
        intro w hw
        have hg : w ∈ gws := by
          rcases c with _ | _ | _ | _ | _ | _ | _ | _ | _ | _ | _ | _ | c
          · cases hq; exact ca_0.2.2.1 w hw
          · cases hq; exact ca_1.2.2.1 w hw
          · cases hq; exact ca_2.2.2.1 w hw
          · cases hq; exact ca_3.2.2.1 w hw
          · cases hq; exact ca_4.2.2.1 w hw
          · cases hq; exact ca_5.2.2.1 w hw
          · cases hq; exact ca_6.2.2.1 w hw
          · cases hq; exact ca_7.2.2.1 w hw
          · cases hq; exact ca_8.2.2.1 w hw
          · cases hq; exact ca_9.2.2.1 w hw
          · cases hq; exact ca_10.2.2.1 w hw
          · cases hq; exact ca_11.2.2.1 w hw
          · omega
        exact (List.mem_filter.mp hg).1
      obtain ⟨cC, iS, hK⟩ := u_known hts hin (hts _ hi)
      exact ⟨(cC, iS), fun q' hq' => by rw [hq] at hq'; cases hq'; exact hK⟩
    · refine ⟨(0, fun _ => 0), fun q hq => ?_⟩
      have := (List.getElem?_eq_some_iff.mp hq).1
      exact absurd this hc
  exact ⟨(fun c => (Classical.choose (key c)).1, fun c => (Classical.choose (key c)).2), fun c q hq => Classical.choose_spec (key c) q hq⟩
set_option maxHeartbeats 1000000 in
set_option maxRecDepth 100000 in
theorem start_world {args : Array Value} {s : State} (l : Launch) (hts : ∀ w ∈ lw_tbl, w.before args s = true) (hgv : (Jvm.Cond.and given_1 narrow_1).before args s = true) (b : Nat) : ∃ g : Gl, g.1 = l ∧ gB g = s.heap.size ∧ gK g = K00 ∧ gI g = I00 ∧ gO g 2 = b ∧ stw g s s.heap ∧ gok g := by
  have hf : ∀ c ∈ fN, c.before args s = true := flat_of_before _ hgv
  obtain ⟨D, hD⟩ := cl_known hts
  obtain ⟨c1, a1⟩ := arc_of (hts _ nw_a5) (fun C q => by cases q)
  obtain ⟨c2, a2⟩ := arc_of (hts _ nw_a6) (fun C q => by cases q)
  obtain ⟨c3, a3⟩ := arc_of (hts _ nw_a7) (fun C q => by cases q)
  obtain ⟨c4, a4⟩ := aro_of (hts _ nw_a1)
  obtain ⟨c5, a5⟩ := aro_of (hts _ nw_a2)
  obtain ⟨c6, a6⟩ := ara_of (hts _ nw_a4)
  obtain ⟨c7, a7⟩ := aro_of (hts _ nw_a3)
  have hA : ∀ a : Nat, a < s.heap.size → ¬ (fun q : Nat => s.heap.size ≤ q) a := fun a h => Nat.not_le.mpr h
  obtain ⟨t0, e0, hT0⟩ := va_Tof (A := fun q : Nat => s.heap.size ≤ q) (tm := .static "TurningSums$Ring" "LENGTHS" "[I") (ty := .int) (N := 13) (f := fun j => .int (lenL.getD j 0)) (by decide) (hf _ (by decide +kernel)) (ev_of_eq (hf _ (by decide +kernel))) (fun j hj => ev_of_eq (hf _ (f_len j hj))) hA
  obtain ⟨t1, e1, hT1⟩ := va_Tof (A := fun q : Nat => s.heap.size ≤ q) (tm := .static "TurningSums$Ring" "LEAST" "[I") (ty := .int) (N := 143) (f := fun j => .int (leastL.getD j 0)) (by decide) (hf _ (by decide +kernel)) (ev_of_eq (hf _ (by decide +kernel))) (fun j hj => ev_of_eq (hf _ (f_lea j hj))) hA
  have hZ0 := va_Zof (A := fun q : Nat => s.heap.size ≤ q) (hts (.laysStatic "TurningSums$Ring" "LENGTHS" "[I") (by decide +kernel)) (hts (.initialized "TurningSums$Ring") (by decide +kernel)) e0 hA
  have hZ1 := va_Zof (A := fun q : Nat => s.heap.size ≤ q) (hts (.laysStatic "TurningSums$Ring" "LEAST" "[I") (by decide +kernel)) (hts (.initialized "TurningSums$Ring") (by decide +kernel)) e1 hA
  have hZ2 := va_Zof (A := fun q : Nat => s.heap.size ≤ q) (hts (.laysStatic "java/lang/String" "COMPACT_STRINGS" "Z") (by decide +kernel)) (hts (.initialized "java/lang/String") (by decide +kernel)) (ev_of_eq (hf (.eq (.static "java/lang/String" "COMPACT_STRINGS" "Z") (.int 1)) (by decide +kernel))) hA
  have hZ3 := va_Zqof (A := fun q : Nat => s.heap.size ≤ q) (hts (.laysStatic "jdk/internal/util/Preconditions" "SIOOBE_FORMATTER" "Ljava/util/function/BiFunction;") (by decide +kernel)) (hts (.initialized "jdk/internal/util/Preconditions") (by decide +kernel)) (hf _ (by decide +kernel)) hA
  have hX0 := vx_Zqof (C := Bundle.tN) (n := "UNASSIGNED_STACK") (d := Bundle.steD) (A := fun q : Nat => s.heap.size ≤ q) (hts _ (by decide +kernel)) (hts (.initialized Bundle.tN) (by decide +kernel)) (hf _ (by decide +kernel)) hA
  have hX1 := vx_Zqof (C := Bundle.tN) (n := "SUPPRESSED_SENTINEL") (d := Bundle.listD) (A := fun q : Nat => s.heap.size ≤ q) (hts _ (by decide +kernel)) (hts (.initialized Bundle.tN) (by decide +kernel)) (hf _ (by decide +kernel)) hA
  obtain ⟨adK, adV, hS, hSe⟩ := vk_Sof (A := fun q : Nat => s.heap.size ≤ q) (N := 16) (tm := sTm) (len := sLn) (byt := sBy) (by decide +kernel) (fun i hi => hf _ (f_ex i hi)) (fun i hi => hf _ (f_co i hi)) (fun i hi => hf _ (f_ar i hi)) (fun i hi => hf _ (f_le i hi)) (fun i hi j hj => hf _ (f_el i hi j hj)) (fun i j hi hj hij => (f_ne i hi j hj hij).imp (fun z => hf _ z) (fun z => hf _ z)) hA
  obtain ⟨fz, fo, hfz⟩ : ∃ (fz fo : Nat), va_Z "jdk/internal/util/Preconditions" "SIOOBE_FORMATTER" "Ljava/util/function/BiFunction;" (if fz = 0 then .null else .ref fo) (fun q : Nat => s.heap.size ≤ q) s s.heap := by
    rcases hZ3 with h | ⟨t, h⟩
    · exact ⟨0, 0, h⟩
    · exact ⟨1, t, h⟩
  refine ⟨(l, D, (fun t => if t = 1 then c1 else if t = 2 then c2 else if t = 3 then c3 else if t = 4 then c4 else if t = 5 then c5 else if t = 6 then c6 else c7), (fun k => if k = 0 then t0 else if k = 1 then t1 else if k = 2 then b else if k < 19 then adK (k - 3) else if k < 36 then adV (k - 20) else if k = 40 then fo else if k = 41 then fz else 0), s.heap.size, K00, I00), rfl, rfl, rfl, rfl, rfl, ⟨⟨hD, ?_⟩, ⟨?_, ?_⟩, hZ0, hZ1, ?_, hZ2, ?_, ?_, hX0, hX1⟩, ?_⟩
  · intro k q hk
    rcases k with _ | _ | _ | _ | _ | _ | _ | k
    · cases hk; exact a1
    · cases hk; exact a2
    · cases hk; exact a3
    · cases hk; exact a4
    · cases hk; exact a5
    · cases hk; exact a6
    · cases hk; exact a7
    · cases hk
  · intro a n ha
    have ha' : K00[a]? = some (1, n) := ha
    have hl : a < 64 := by
      have := (List.getElem?_eq_some_iff.mp ha').1
      rw [K00_len] at this
      exact this
    have hd : K00.getD a (0, 0) = (1, n) := by rw [List.getD_eq_getElem?_getD, ha']; rfl
    have h2 := K00_ints a hl
    rw [hd] at h2
    rcases h2 rfl with ⟨rfl, h3⟩ | ⟨rfl, h3⟩ <;> (cases h3)
    · exact hT0
    · exact hT1
  · refine ⟨fun a i b n d h q => va_Nw.of rfl (hts _ (nw_f _ q)), fun a i x h q => va_Nw.of rfl (hts _ (nw_m _ q)), hts _ nw_a1, hts _ nw_a2, hts _ nw_a3, hts _ nw_a4⟩
  · refine ⟨fun i hi => ?_, fun i j hi hj e => ?_⟩
    · have e1 : (if 3 + i = 0 then t0 else if 3 + i = 1 then t1 else if 3 + i = 2 then b else if 3 + i < 19 then adK (3 + i - 3) else if 3 + i < 36 then adV (3 + i - 20) else if 3 + i = 40 then fo else if 3 + i = 41 then fz else 0) = adK i := by
        rw [if_neg (by omega), if_neg (by omega), if_neg (by omega), if_pos (by omega), Nat.add_sub_cancel_left]
      have e2 : (if 20 + i = 0 then t0 else if 20 + i = 1 then t1 else if 20 + i = 2 then b else if 20 + i < 19 then adK (20 + i - 3) else if 20 + i < 36 then adV (20 + i - 20) else if 20 + i = 40 then fo else if 20 + i = 41 then fz else 0) = adV i := by
        rw [if_neg (by omega), if_neg (by omega), if_neg (by omega), if_neg (by omega), if_pos (by omega), Nat.add_sub_cancel_left]
      have h := hS.1 i hi
      show va_O _ (if 3 + i = 0 then t0 else _) _ _ _ ∧ va_OF _ _ _ _ (if 3 + i = 0 then t0 else _) _ _ _ ∧ va_OF _ _ _ (.ref (if 20 + i = 0 then t0 else _)) (if 3 + i = 0 then t0 else _) _ _ _ ∧ va_T _ (if 20 + i = 0 then t0 else _) _ _ _ _ _
      rw [e1, e2]
      exact h
    · have e1 : ∀ i, i < 16 → (if 3 + i = 0 then t0 else if 3 + i = 1 then t1 else if 3 + i = 2 then b else if 3 + i < 19 then adK (3 + i - 3) else if 3 + i < 36 then adV (3 + i - 20) else if 3 + i = 40 then fo else if 3 + i = 41 then fz else 0) = adK i := fun i hi => by
        rw [if_neg (by omega), if_neg (by omega), if_neg (by omega), if_pos (by omega), Nat.add_sub_cancel_left]
      have e3 := (e1 i hi).symm.trans (Eq.trans e (e1 j hj))
      exact hS.2 i j hi hj e3
  · show va_Z _ _ _ (va_rf ((if fz = 0 then none else some 40 : Option Nat).map (ad _))) _ _ _
    by_cases hz : fz = 0
    · rw [if_pos hz] at hfz ⊢
      exact hfz
    · rw [if_neg hz] at hfz ⊢
      exact hfz
  · intro i own k tx hi
    have hl : i < 16 := (List.getElem?_eq_some_iff.mp hi).1
    have e1 : (if 3 + i = 0 then t0 else if 3 + i = 1 then t1 else if 3 + i = 2 then b else if 3 + i < 19 then adK (3 + i - 3) else if 3 + i < 36 then adV (3 + i - 20) else if 3 + i = 40 then fo else if 3 + i = 41 then fz else 0) = adK i := by
      rw [if_neg (by omega), if_neg (by omega), if_neg (by omega), if_pos (by omega), Nat.add_sub_cancel_left]
    show vk_R own k tx (if 3 + i = 0 then t0 else _) s
    rw [e1]
    have hd : sTx.getD i ("", 0, "") = (own, k, tx) := by rw [List.getD_eq_getElem?_getD, hi]; rfl
    have h1 := hts _ (f_sr i hl)
    have h2 := hSe i hl
    unfold sTm sOwn sIdx at h2
    unfold sOwn sIdx at h1
    rw [hd] at h1 h2
    exact vk_R.of h1 h2
  · refine ⟨K00_len, ?_⟩
    have h3 : ∀ q ∈ K00, q.1 = 1 ∨ 9 ≤ q.1 := by decide +kernel
    exact fun a q hq => h3 q (List.mem_of_getElem? hq)
