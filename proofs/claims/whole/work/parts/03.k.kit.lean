/-! ===== new long[n][k] ===== -/
theorem vr_outer9 (c : ClassId) (N h0 : Nat) : Jvm.Free.Multi.outerC c N h0 N = arrV c N (fun j => va_rf (if j < N then some (h0 + 1 + j) else none)) := by
  have key : ∀ i : Nat, Jvm.Free.Multi.outerC c N h0 i = arrV c N (fun j => va_rf (if j < i then some (h0 + 1 + j) else none)) := by
    intro i
    induction i with
    | zero =>
      show ({ cls := c, slots := Array.replicate N .null, vm := .none } : Cell) = _
      rw [arrV_new]
      refine congrArg (arrV c N) (funext fun j => ?_)
      simp [va_rf]
    | succ i ih =>
      show (Jvm.Free.Multi.outerC c N h0 i).setSlot i (.ref (h0 + 1 + i)) = _
      rw [ih, arrV_store]
      refine congrArg (arrV c N) (funext fun j => ?_)
      by_cases e : j = i
      · subst e
        simp [updV, va_rf]
      · by_cases h : j < i
        · simp [updV, e, h, Nat.lt_succ_of_lt h]
        · simp [updV, e, h, show ¬ j < i + 1 by omega]
  exact key N
section SNM
variable {α : Type} {cx : CX} {y : MD} {enc : α → Option LV} {pc : Nat} {ls : List (Nat × LV)} {st : List LV} {F : Mo α}
theorem hNews_len (h : Hp) (q : Nat × Nat) : ∀ n, (hNews h q n).1.length = h.1.length + n
  | 0 => rfl
  | n + 1 => by
    show (hNew (hNews h q n) q).1.length = _
    rw [hNew_len, hNews_len h q n]
    omega
theorem hNews_sz (h : Hp) (q : Nat × Nat) : ∀ n, hsz (hNews h q n) = hsz h + n * ksz q
  | 0 => by show hsz h = _; omega
  | n + 1 => by
    show hsz (hNew (hNews h q n) q) = _
    rw [hNew_sz, hNews_sz h q n, Nat.succ_mul]
    omega
theorem hNews_ext (h : Hp) (q : Nat × Nat) : ∀ n, ∃ ext, (hNews h q n).1 = h.1 ++ ext
  | 0 => ⟨[], (List.append_nil _).symm⟩
  | n + 1 => by
    obtain ⟨e, he⟩ := hNews_ext h q n
    exact ⟨e ++ [q], by show (hNews h q n).1 ++ [q] = _; rw [he, List.append_assoc]⟩
theorem hNews_old (h : Hp) (q : Nat × Nat) {a : Nat} (ha : a < h.1.length) : ∀ n, (hNews h q n).2.1 a = h.2.1 a ∧ (hNews h q n).2.2.1 a = h.2.2.1 a ∧ (hNews h q n).2.2.2 a = h.2.2.2 a
  | 0 => ⟨rfl, rfl, rfl⟩
  | n + 1 => by
    obtain ⟨e1, e2, e3⟩ := hNews_old h q ha n
    have hl := hNews_len h q n
    exact ⟨(st1_ne (by omega)).trans e1, (st1_ne (by omega)).trans e2, (st1_ne (by omega)).trans e3⟩
theorem hNews_new (h : Hp) (q : Nat × Nat) : ∀ n j, j < n → (hNews h q n).1[h.1.length + j]? = some q ∧ (hNews h q n).2.2.1 (h.1.length + j) = fun _ => 0
  | 0, _, hj => absurd hj (Nat.not_lt_zero _)
  | n + 1, j, hj => by
    have hl := hNews_len h q n
    by_cases hjn : j = n
    · subst hjn
      refine ⟨?_, ?_⟩
      · show ((hNews h q j).1 ++ [q])[h.1.length + j]? = some q
        rw [List.getElem?_append_right (by omega), hl, Nat.sub_self]
        rfl
      · show st1 (hNews h q j).2.2.1 (hNews h q j).1.length (fun _ => 0) (h.1.length + j) = _
        rw [hl, st1_eq]
    · obtain ⟨e1, e2⟩ := hNews_new h q n j (by omega)
      refine ⟨?_, ?_⟩
      · show ((hNews h q n).1 ++ [q])[h.1.length + j]? = some q
        rw [List.getElem?_append_left (by omega)]
        exact e1
      · exact (st1_ne (by omega)).trans e2
def hMul (h : Hp) (n k : Nat) : Hp := ((hNews (hNew h (6, n)) (2, k) n).1, (hNews (hNew h (6, n)) (2, k) n).2.1, (hNews (hNew h (6, n)) (2, k) n).2.2.1, st1 (hNews (hNew h (6, n)) (2, k) n).2.2.2 h.1.length (fun j => if j < n then some (h.1.length + 1 + j) else none))
theorem hMul_len (h : Hp) (n k : Nat) : (hMul h n k).1.length = h.1.length + 1 + n := by
  show (hNews (hNew h (6, n)) (2, k) n).1.length = _
  rw [hNews_len, hNew_len]
theorem hMul_sz (h : Hp) (n k : Nat) : hsz (hMul h n k) = hsz h + n + n * k := by
  show hsz (hNews (hNew h (6, n)) (2, k) n) = _
  rw [hNews_sz, hNew_sz]
  rfl
theorem hMul_ext (h : Hp) (n k : Nat) : ∃ ext, (hMul h n k).1 = h.1 ++ ext := by
  obtain ⟨e, he⟩ := hNews_ext (hNew h (6, n)) (2, k) n
  exact ⟨(6, n) :: e, by show (hNews (hNew h (6, n)) (2, k) n).1 = _; rw [he]; show (h.1 ++ [(6, n)]) ++ e = _; rw [List.append_assoc]; rfl⟩
set_option maxHeartbeats 1000000 in
theorem sn_mnew {idx : Nat} (hw1 : Cond.classLink y.1 idx "[[J" ∈ gws) (hw2 : Cond.arrayClass (newarray.typeOf .long) ∈ gws) (d : decode y.2.2.1 pc = .ok (.multianewarray idx 2, 4)) {n k : Int32} {G : Option Nat → Mo α} (kk : ∀ x, Sn cx y enc (pc + 4) ls (vA x :: st) (G x)) : Sn cx y enc pc ls (vI k :: vI n :: st) (mBd (mNewM n k) G) := by
  have hdef : ∀ h : Hp, mNewM n k h = if (¬ n < 0 ∧ n.toNatClampNeg ≤ 100) ∧ ¬ k < 0 ∧ k.toNatClampNeg ≤ 100 then some (some h.1.length, hMul h n.toNatClampNeg k.toNatClampNeg) else none := fun h => rfl
  refine ⟨fun h r h' e => ?_, fun ok h r h' hF hE H locs lsA hR hm hll => ?_⟩
  · obtain ⟨x, h1, e1, e2⟩ := bd_inv e
    rw [hdef] at e1
    split at e1
    · cases e1
      obtain ⟨ext, hx⟩ := (kk _).1 _ _ _ e2
      obtain ⟨e9, h9⟩ := hMul_ext h n.toNatClampNeg k.toNatClampNeg
      exact ⟨e9 ++ ext, by rw [hx, h9, List.append_assoc]⟩
    · cases e1
  · obtain ⟨x, h1, e1, e2⟩ := bd_inv hF
    rw [hdef] at e1
    split at e1
    · rename_i hc
      cases e1
      obtain ⟨r1, r2, r3, r4⟩ := id hR
      generalize hN : n.toNatClampNeg = N at hc e2
      generalize hK : k.toNatClampNeg = K at hc e2
      have hlenM := hMul_len h N K
      have hszM := hMul_sz h N K
      have hlen := (kk (some h.1.length)).1.len e2
      have hst := ok.2.2.2.2.2.2.2.2.2.2.1
      obtain ⟨m1, m2⟩ := id hm
      have hNK : N * K ≤ 100 * 100 := Nat.mul_le_mul hc.1.2 hc.2.2
      have hfl : cx.2.2.2.2.1.vm.findClass (FieldType.array .long).toString = some (gC cx.1 2) := (hst.1.2 1 _ rfl).2
      have hfo : cx.2.2.2.2.1.vm.findClass ("[" ++ (FieldType.array .long).toString) = some (gC cx.1 6) := (hst.1.2 5 _ rfl).2
      intro T hT Xs
      obtain ⟨vm₁, cA, comp, -, fA, fC, hO, -, X', step⟩ := Xs.multianewarray2F ok.1 (ty := .long) ok.2.2.2.1 (ok.2.2.2.2.1 _ hw1) (hst.2.1.2.2.2.2.2.2) (ok.2.2.2.2.1 _ hw2) (g := F0 cx.2.2.2.2.2.1 pc lsA ((vI k :: vI n :: st).map (cvv cx.1))) rfl (by rw [ok.2.1]; exact d) rfl hc.1.1 hc.2.1 (by rw [hN]; omega) (by rw [hK]; show K * 8 ≤ _; omega) (by rw [hK]; omega) rfl rfl (by rw [hN]; omega) (by rw [hN, hK]; omega)
      have ec : gC cx.1 2 = comp := Option.some.inj (hfl.symm.trans fC)
      have ea : gC cx.1 6 = cA := Option.some.inj (hfo.symm.trans fA)
      subst ec
      subst ea
      rw [hN, hK] at X' step
      generalize hFd : Jvm.Free.Multi.fill (T.setVm vm₁) (gC cx.1 6) (gC cx.1 2) N K (defaultValue .long) N = Fd at X' step
      have hTh : (T.setVm vm₁).heap = H := hT
      obtain ⟨f1, f2, -, -⟩ := Jvm.Free.Multi.fill_facts (T.setVm vm₁) (gC cx.1 6) (gC cx.1 2) N K (defaultValue .long) N
      rw [hFd, hTh] at f1 f2
      have hold : ∀ x : Nat, x < H.size → Fd.heap[x]? = H[x]? := fun x hx => by
        have := Jvm.Free.Multi.fill_old (T.setVm vm₁) (gC cx.1 6) (gC cx.1 2) N K (defaultValue .long) (a := x) (by rw [hTh]; exact hx) N
        rw [hFd, hTh] at this
        exact this
      have hrow : ∀ j : Nat, j < N → Fd.heap[H.size + 1 + j]? = some (arrV (gC cx.1 2) K (fun _ => .long 0)) := fun j hj => by
        have := Jvm.Free.Multi.fill_inner (T.setVm vm₁) (gC cx.1 6) (gC cx.1 2) N K (defaultValue .long) N j hj
        rw [hFd, hTh] at this
        rw [this]
        exact congrArg some (by unfold Jvm.Free.Multi.innerC; rw [arrV_new]; rfl)
      have hend := ad_end r1
      have had : ∀ j, ad cx.1 (h.1.length + 1 + j) = H.size + 1 + j := fun j => by
        have h64 := r1.2.2.1
        have h3 := r1.2.2.2.1
        rw [ad_new (by omega)]
        omega
      have w1 : wr cx.1 (hMul h N K) Fd.heap := by
        obtain ⟨⟨r0, w1⟩, w2, w3, w4, w5⟩ := r1
        obtain ⟨ex, hex⟩ := hMul_ext h N K
        refine ⟨⟨r0 ++ ex, by rw [hex, w1, List.append_assoc]⟩, fun a ha => ?_, by rw [hlenM]; omega, by rw [hlenM, f1, w4]; omega, fun a q ha e h8 => ?_⟩
        · have := (hNews_old (hNew h (6, N)) (2, K) (a := a) (by rw [hNew_len]; omega) N).1
          exact this.trans ((st1_ne (by omega)).trans (w2 a ha))
        · rcases Nat.lt_trichotomy a h.1.length with hl | hl | hl
          · have e' : h.1[a]? = some q := by
              rw [hex, List.getElem?_append_left hl] at e
              exact e
            have h1 := w5 a q ha e' h8
            have h2 := h1.kept (hold (ad cx.1 a) h1.lt)
            have ho := hNews_old (hNew h (6, N)) (2, K) (a := a) (by rw [hNew_len]; omega) N
            have ht : tcell cx.1 (hMul h N K) a q = tcell cx.1 h a q := tcell_cong (ho.1.trans (st1_ne (by omega))) (ho.2.1.trans (st1_ne (by omega))) ((st1_ne (by omega)).trans (ho.2.2.trans (st1_ne (by omega))))
            rw [ht]
            exact h2
          · subst hl
            obtain ⟨e9, h9⟩ := hNews_ext (hNew h (6, N)) (2, K) N
            have e' : (hMul h N K).1[h.1.length]? = some (6, N) := by
              show (hNews (hNew h (6, N)) (2, K) N).1[h.1.length]? = _
              rw [h9, List.getElem?_append_left (by rw [hNew_len]; omega), hNew_kd]
            rw [e'] at e
            cases e
            rw [tcell_ref (by omega), hend]
            show Fd.heap[H.size]? = some (arrV (gC cx.1 6) N (fun j => va_rf ((st1 _ h.1.length (fun j => if j < N then some (h.1.length + 1 + j) else none) h.1.length j).map (ad cx.1))))
            rw [f2, vr_outer9, st1_eq]
            congr 2
            funext j
            by_cases hj : j < N
            · rw [if_pos hj, if_pos hj]
              show va_rf (some (H.size + 1 + j)) = va_rf (some (ad cx.1 (h.1.length + 1 + j)))
              rw [had]
            · rw [if_neg hj, if_neg hj]
              rfl
          · have hlt := (List.getElem?_eq_some_iff.mp e).1
            rw [hlenM] at hlt
            obtain ⟨j, rfl⟩ : ∃ j, a = h.1.length + 1 + j := ⟨a - (h.1.length + 1), by omega⟩
            obtain ⟨n1, n2⟩ := hNews_new (hNew h (6, N)) (2, K) N j (by omega)
            rw [hNew_len] at n1 n2
            rw [show (hMul h N K).1[h.1.length + 1 + j]? = some (2, K) from n1] at e
            cases e
            rw [had]
            show Fd.heap[H.size + 1 + j]? = some (arrV (gC cx.1 2) K (fun j9 => .long ((hNews (hNew h (6, N)) (2, K) N).2.2.1 (h.1.length + 1 + j) j9)))
            rw [n2]
            exact hrow j (by omega)
      have hR1 : Rdy cx (hMul h N K) Fd.heap locs := ⟨w1, ⟨Nat.le_trans r2.1 (by rw [f1]; omega), fun x h1 h2 => (hold x (Nat.lt_of_lt_of_le h1 r2.1)).trans (r2.2.1 x h1 h2), r2.2.2⟩, by rw [hlenM]; omega, by rw [hszM]; omega⟩
      have K9 := (kk (some h.1.length)).2 ok _ _ _ e2 hE Fd.heap locs lsA hR1 hm hll
      unfold Wc at K9
      rw [hlenM, hszM, show h.1.length + 1 + N - cx.2.2.2.2.2.2.2.2.2.2.2.1 = h.1.length - cx.2.2.2.2.2.2.2.2.2.2.2.1 + 1 + N by omega, show hsz h + N + N * K - cx.2.2.2.2.2.2.2.2.2.2.2.2 = hsz h - cx.2.2.2.2.2.2.2.2.2.2.2.2 + N + N * K by omega] at K9
      obtain ⟨t2, a1, b1⟩ := K9 Fd rfl X'
      refine ⟨t2, step t2 ?_, b1⟩
      have e3 : T.heap.size = ad cx.1 h.1.length := by rw [hT, hend]
      rw [e3]
      exact a1
    · cases e1
end SNM
