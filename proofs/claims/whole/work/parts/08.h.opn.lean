/-! ===== feed ===== -/
section
variable {β : Type} {kw : Nat → Int64} {K : List (Nat × Nat)} {I I' : Nat → Nat → Int32} {J J' : Nat → Nat → Int64} {A : Nat → Nat → Option Nat} {w : WD}
theorem key255 : ∀ i (hi : i < 8), (255#8)[i] = true := by decide
theorem and255 (y : Int32) : (y &&& 255).toInt8 = y.toInt8 := by
  apply Int8.toBitVec_inj.mp
  rw [Int32.toBitVec_toInt8, Int32.toBitVec_toInt8]
  ext i hi
  have h255 : (255 : Int32).toBitVec = 255#32 := rfl
  simp [BitVec.getLsbD_signExtend, BitVec.getElem_signExtend, h255]
  exact fun _ => key255 i hi
def byN (y : Int32) : Nat := (y.toBitVec &&& 255#32).toNat
theorem byN_lt (y : Int32) : byN y < 256 := by
  unfold byN
  rw [BitVec.toNat_and]
  exact Nat.lt_of_le_of_lt Nat.and_le_right (by decide)
theorem byN_and (y : Int32) : y &&& 255 = zn (byN y) := by
  apply Int32.toBitVec_inj.mp
  show _ = BitVec.ofNat 32 (y.toBitVec &&& 255#32).toNat
  rw [BitVec.ofNat_toNat, BitVec.setWidth_eq]
  rfl
theorem byN_s (y : Int32) : y.toInt8.toInt32.toInt8.toInt32 = byS (byN y) := by
  unfold byS
  rw [← byN_and, and255]
  simp
/-- the k-th byte's shift -/
def sh4 (k : Nat) : Int32 := zi (24 - 8 * (k : Int)) &&& 31
def wsel (p1 p2 p3 p4 p5 : Int32) (j : Nat) : Int32 := if j = 0 then p1 else if j = 1 then p2 else if j = 2 then p3 else if j = 3 then p4 else p5
def bwd (x : Int32) (k : Nat) : Int32 := (x >>> sh4 k) &&& 255
theorem t_append {Q : Unit → Hp → Prop} {x : Int32} {h : Nat} (hT : TS K A) (h5 : I 66 5 = zn h) (hh : h ≤ 896) (q : ∀ I', (∀ b, b ≠ 66 → b ≠ 67 → I' b = I b) → (∀ j, j ≠ 5 → I' 66 j = I 66 j) → I' 66 5 = zn (h + 4) → (∀ i, i < h → I' 67 i = I 67 i) → (∀ k, k < 4 → I' 67 (h + k) = bwd x k) → Q () (K, I', J, A)) : wp (f_X9_append (some 66) x) Q (K, I, J, A) := by
  obtain ⟨k66, ⟨a0, a1, a2, a3, a4⟩, k67, _⟩ := hT
  unfold f_X9_append f_X9_append_l3
  refine while1 (fun m y I' J' => ∃ k : Nat, k ≤ 4 ∧ y = zi (24 - 8 * (k : Int)) ∧ m = 4 - k ∧ J' = J ∧ (∀ b, b ≠ 66 → b ≠ 67 → I' b = I b) ∧ (∀ j, j ≠ 5 → I' 66 j = I 66 j) ∧ I' 66 5 = zn (h + k) ∧ (∀ i, i < h → I' 67 i = I 67 i) ∧ ∀ i, i < k → I' 67 (h + i) = bwd x i) ?_ fuel 4 _ _ _ (by unfold fuel; omega) ⟨0, by omega, by decide, rfl, rfl, fun _ _ _ => rfl, fun _ _ => rfl, h5, fun _ _ => rfl, fun i hi => by omega⟩
  rintro m y I' J' R ⟨k, hk, rfl, rfl, rfl, f1, f2, f3, f4, f5⟩ hR
  unfold f_X9_append_b3
  by_cases he : k = 4
  · subst he
    exact wp_ifp (ilt_t (b := 0) (by omega)) (wp_rt (q I' f1 f2 f3 f4 f5))
  · refine wp_ifn (ilt_f (b := 0) (by omega)) (b_getA k66 a0 (b_getIv k66 f3 (b_eq (t_mark k67 (by decide) (by omega) (by omega)) (b_getIv k66 ((st2_na (by decide)).trans f3) (b_putI k66 (by decide) ?_)))))
    have e : zi (24 - 8 * (k : Int)) + (-8 : Int32) = zi (24 - 8 * ((k + 1 : Nat) : Int)) := by
      rw [show (-8 : Int32) = zi (-8) by decide, zi_add]
      congr 1
      omega
    rw [e, zn_succ]
    refine hR (4 - (k + 1)) _ _ _ (by omega) ⟨k + 1, by omega, rfl, rfl, rfl, fun b h1 h2 => ?_, fun j hj => ?_, st2_at, fun i hi => ?_, fun i hi => ?_⟩
    · rw [st2_nb h1, st2_nb h2]; exact f1 b h1 h2
    · rw [st2_nk hj, st2_na (by decide)]; exact f2 j hj
    · rw [st2_na (by decide), st2_nk (by omega)]; exact f4 i hi
    · rw [st2_na (by decide)]
      by_cases hik : i = k
      · subst hik; rw [st2_at]; rfl
      · rw [st2_nk (by omega)]; exact f5 i (by omega)
theorem sh_irem (i : Nat) (h : i < 20) : ((24 : Int32) - (8 : Int32) * irem (zn i) 4) &&& 31 = sh4 (i % 4) := by
  revert h; revert i; decide
def wby (p1 p2 p3 p4 p5 : Int32) (i : Nat) : Nat := byN (wsel p1 p2 p3 p4 p5 (i / 4) >>> sh4 (i % 4))
theorem t_feedJ {Q : Int32 → Hp → Prop} {R : Int32 → Mo Int32} {p1 p2 p3 p4 p5 s : Int32} {h i : Nat} (hM : MS K A 224) (h8 : I 224 8 = zn (h + i)) (hh : h + i < 900) (hi : i < 20) (hs : s = wsel p1 p2 p3 p4 p5 (i / 4)) (q : wp (R (zn (i + 1))) Q (K, st2 (st2 I 227 (h + i) (byS (wby p1 p2 p3 p4 p5 i))) 224 8 (zn (h + (i + 1))), J, A)) : wp (f_X13_feed_j76 R (some 224) p1 p2 p3 p4 p5 (zn i) s) Q (K, I, J, A) := by
  unfold f_X13_feed_j76
  subst hs
  refine b_getA hM.1 hM.2.1.2.2.1 (b_getIv hM.1 h8 (b_stB (j := h + i) hM.2.2.1.2.2.1 (by decide) (by omega) (by omega) (b_getIv hM.1 ((st2_na (by decide)).trans h8) (b_putI hM.1 (by decide) ?_))))
  rw [sh_irem i hi, byN_s, zn_succ, zn_succ]
  exact q
theorem t_feedR {Q : Int32 → Hp → Prop} {p1 p2 p3 p4 p5 : Int32} {h : Nat} (hM : MS K A 224) (h8 : I 224 8 = zn h) (hh : h + 20 ≤ 900) (q : ∀ I', (∀ b, b ≠ 224 → b ≠ 227 → I' b = I b) → (∀ j, j ≠ 8 → I' 224 j = I 224 j) → I' 224 8 = zn (h + 20) → (∀ i, i < h → I' 227 i = I 227 i) → (∀ i, i < 20 → I' 227 (h + i) = byS (wby p1 p2 p3 p4 p5 i)) → Q (zn (h + 20)) (K, I', J, A)) : wp (f_X13_feed_l23 (some 224) p1 p2 p3 p4 p5 0) Q (K, I, J, A) := by
  unfold f_X13_feed_l23
  refine for1 (N := 20) (fun k I' J' => J' = J ∧ (∀ b, b ≠ 224 → b ≠ 227 → I' b = I b) ∧ (∀ j, j ≠ 8 → I' 224 j = I 224 j) ∧ I' 224 8 = zn (h + k) ∧ (∀ i, i < h → I' 227 i = I 227 i) ∧ ∀ i, i < k → I' 227 (h + i) = byS (wby p1 p2 p3 p4 p5 i)) ?_ ?_ (k := 0) (by omega) (by unfold fuel; omega) ⟨rfl, fun _ _ _ => rfl, fun _ _ => rfl, h8, fun _ _ => rfl, fun i hi => by omega⟩
  · rintro k I' J' R hk ⟨rfl, f1, f2, f3, f4, f5⟩ hR
    unfold f_X13_feed_b23
    have step : ∀ s, s = wsel p1 p2 p3 p4 p5 (k / 4) → wp (f_X13_feed_j76 R (some 224) p1 p2 p3 p4 p5 (zn k) s) Q (K, I', J', A) := by
      intro s hs
      refine t_feedJ hM f3 (by omega) hk hs ?_
      rw [← zn_succ]
      refine hR _ _ ⟨rfl, fun b h1 h2 => ?_, fun j hj => ?_, st2_at, fun i hi => ?_, fun i hi => ?_⟩
      · rw [st2_nb h1, st2_nb h2]; exact f1 b h1 h2
      · rw [st2_nk hj, st2_na (by decide)]; exact f2 j hj
      · rw [st2_na (by decide), st2_nk (by omega)]; exact f4 i hi
      · rw [st2_na (by decide)]
        by_cases hik : i = k
        · subst hik; rw [st2_at]
        · rw [st2_nk (by omega)]; exact f5 i (by omega)
    refine wp_ifn (ge_f (b := 20) (by omega)) ?_
    by_cases h4 : 4 ≤ k
    · refine wp_ifp (ge_t (b := 4) (by omega)) ?_
      by_cases h8 : 8 ≤ k
      · refine wp_ifp (ge_t (b := 8) (by omega)) ?_
        by_cases h12 : 12 ≤ k
        · refine wp_ifp (ge_t (b := 12) (by omega)) ?_
          by_cases h16 : 16 ≤ k
          · exact wp_ifp (ge_t (b := 16) (by omega)) (step _ (by rw [show k / 4 = 4 by omega]; rfl))
          · exact wp_ifn (ge_f (b := 16) (by omega)) (step _ (by rw [show k / 4 = 3 by omega]; rfl))
        · exact wp_ifn (ge_f (b := 12) (by omega)) (step _ (by rw [show k / 4 = 2 by omega]; rfl))
      · exact wp_ifn (ge_f (b := 8) (by omega)) (step _ (by rw [show k / 4 = 1 by omega]; rfl))
    · exact wp_ifn (ge_f (b := 4) (by omega)) (step _ (by rw [show k / 4 = 0 by omega]; rfl))
  · rintro I' J' R ⟨rfl, f1, f2, f3, f4, f5⟩
    unfold f_X13_feed_b23
    exact wp_ifp (ge_t (b := 20) (by omega)) (b_getIv hM.1 f3 (wp_rt (q I' f1 f2 f3 f4 f5)))
theorem Core.tp {n' : Nat} {b' : Nat → Nat} (h : Core kw K I J A w) (f : ∀ b, b ≠ 66 → b ≠ 67 → b ≠ 224 → b ≠ 227 → I' b = I b) (f224 : ∀ j, 3 ≤ j → j ≠ 8 → I' 224 j = I 224 j) (h1 : n' ≤ 900) (h2 : I' 66 5 = zn n') (h3 : I' 224 8 = zn n') (h4 : ∀ i, i < n' → (b' i < 256 ∧ I' 67 i = zn (b' i) ∧ I' 227 i = byS (b' i))) : Core kw K I' J A (w.1, w.2.1, w.2.2.1, w.2.2.2.1, w.2.2.2.2.1, w.2.2.2.2.2.1, (n', b'), w.2.2.2.2.2.2.2) := by
  obtain ⟨nb, w⟩ := w
  unfold Core at h ⊢
  dsimp only at h ⊢
  obtain ⟨⟨a1, a2, a3, a4⟩, ⟨b1, b2⟩, ⟨c1, c2, c3⟩, ⟨d1, d2, d3, d4⟩, ⟨e1, e2, e3, e4⟩⟩ := h
  have hnb := a1.1
  have ok := a4
  obtain ⟨⟨o1, o2⟩, ⟨o3, o4⟩, ⟨o5, o6⟩⟩ := ok
  have hI : ∀ b, b ≠ 66 → b ≠ 67 → b ≠ 224 → b ≠ 227 → I' b = I b := f
  refine ⟨⟨a1, a2, a3.ga Gr.rfl' (hI 0 (by decide) (by decide) (by decide) (by decide)) (hI 1 (by decide) (by decide) (by decide) (by decide)), a4⟩, ⟨?_, ?_⟩, ⟨?_, ?_, c3⟩, ⟨h1, h2, h3, h4⟩, ⟨?_, ?_, ?_, e4⟩⟩
  · obtain ⟨⟨x1, x2, x3⟩, x4, x5, x6⟩ := b1
    refine ⟨⟨?_, ?_, ?_⟩, fun f hf => ?_, fun i hi => ?_, fun l hl => ⟨?_, fun i hi => ?_⟩⟩
    · rw [hI nb (by omega) (by omega) (by omega) (by omega)]; exact x1
    · rw [hI nb (by omega) (by omega) (by omega) (by omega)]; exact x2
    · rw [hI nb (by omega) (by omega) (by omega) (by omega)]; exact x3
    · exact (x4 f hf).mv (hI _ (by omega) (by omega) (by omega) (by omega)) (hI _ (by omega) (by omega) (by omega) (by omega)) (hI _ (by omega) (by omega) (by omega) (by omega))
    · exact (x5 i hi).mv (hI _ (by omega) (by omega) (by omega) (by omega)) (hI _ (by omega) (by omega) (by omega) (by omega)) (hI _ (by omega) (by omega) (by omega) (by omega))
    · rw [hI _ (by omega) (by omega) (by omega) (by omega)]; exact (x6 l hl).1
    · exact (x6 l hl).2 i hi
  · exact b2.mv (fun b hb => hI b (by omega) (by omega) (by omega) (by omega)) (fun _ _ => rfl)
  · exact c1.mv (hI _ (by decide) (by decide) (by decide) (by decide)) rfl rfl
  · exact c2.mv (fun j hj => f224 j (by omega) (by omega)) rfl rfl rfl rfl
  · rw [hI 64 (by decide) (by decide) (by decide) (by decide)]; exact e1
  · rw [f224 _ (by decide) (by decide)]; exact e2
  · rw [hI 64 (by decide) (by decide) (by decide) (by decide)]; exact e3
def PostF (kw : Nat → Int64) (K : List (Nat × Nat)) (A : Nat → Nat → Option Nat) (tr : Nat) (h : Hp) : Prop := ∃ w', PostS kw K A w' tr h
theorem op_feed {p1 p2 p3 p4 p5 : Int32} {tr : Nat} (hI : Core kw K I J A w) (hT : Tr I w tr) : Both (f_X10_feed (some 64) p1 p2 p3 p4 p5) (f_X13_feed (some 224) p1 p2 p3 p4 p5) (PostF kw K A tr) (K, I, J, A) := by
  unfold Both f_X10_feed f_X3_tape f_X9_hasRoom f_X9_bytesHeld
  obtain ⟨hA0, hA1, hA2, hA3, hA4, hA5, hA6, hA7, hA8⟩ := a64 hI
  have hps := hI.sh.2.2.2.2.2.2.2.2.1
  have hts := hps.2.2.1
  have hM := hI.ms
  have hnb := hI.nb
  obtain ⟨d1, d2, d3, d4⟩ := hI.2.2.2.1
  refine b_getA hI.k64 hA0 (b_ck hps.1 (b_assoc (b_getA hps.1 hps.2.1.1 (b_rt (b_ck hts.1 (b_assoc (b_getIv hts.1 d2 (b_ite ?_))))))))
  rw [show zn w.2.2.2.2.2.2.1.1 + (20 : Int32) = zn (w.2.2.2.2.2.2.1.1 + 20) from zn_add _ 20]
  by_cases hr : w.2.2.2.2.2.2.1.1 + 20 ≤ 900
  · refine wp_ifn (fun q => ?_) (b_rt (wp_ifp (by decide) (b_ck hts.1 (wp_bd (t_append hts d2 (by omega) (fun I1 f1 g1 h1 l1 n1 => ?_))))))
    · have : zn 900 < zn (w.2.2.2.2.2.2.1.1 + 20) := q
      rw [zn_lt (by omega) (by omega)] at this
      omega
    refine b_ck hts.1 (wp_bd (t_append hts h1 (by omega) (fun I2 f2 g2 h2 l2 n2 => b_ck hts.1 (wp_bd (t_append hts h2 (by omega) (fun I3 f3 g3 h3 l3 n3 => b_ck hts.1 (wp_bd (t_append hts h3 (by omega) (fun I4 f4 g4 h4 l4 n4 => b_ck hts.1 (wp_bd (t_append hts h4 (by omega) (fun I5 f5 g5 h5 l5 n5 => b_ck hts.1 (b_assoc (b_getIv hts.1 h5 (b_rt (wp_rt ?_))))))))))))))))
    have F : ∀ b, b ≠ 66 → b ≠ 67 → I5 b = I b := fun b x y => by rw [f5 b x y, f4 b x y, f3 b x y, f2 b x y, f1 b x y]
    have L : ∀ i, i < w.2.2.2.2.2.2.1.1 → I5 67 i = I 67 i := fun i hi => by rw [l5 i (by omega), l4 i (by omega), l3 i (by omega), l2 i (by omega), l1 i (by omega)]
    have N : ∀ i, i < 20 → I5 67 (w.2.2.2.2.2.2.1.1 + i) = zn (wby p1 p2 p3 p4 p5 i) := by
      intro i hi
      unfold wby
      rw [← byN_and]
      show _ = bwd (wsel p1 p2 p3 p4 p5 (i / 4)) (i % 4)
      have hd : i = 4 * (i / 4) + i % 4 := by omega
      have hm : i % 4 < 4 := by omega
      have hq : i / 4 = 0 ∨ i / 4 = 1 ∨ i / 4 = 2 ∨ i / 4 = 3 ∨ i / 4 = 4 := by omega
      rcases hq with hq | hq | hq | hq | hq
      · rw [l5 _ (by omega), l4 _ (by omega), l3 _ (by omega), l2 _ (by omega), hq, show wsel p1 p2 p3 p4 p5 0 = p1 from rfl, ← n1 _ hm]; congr 1; omega
      · rw [l5 _ (by omega), l4 _ (by omega), l3 _ (by omega), hq, show wsel p1 p2 p3 p4 p5 1 = p2 from rfl, ← n2 _ hm]; congr 1; omega
      · rw [l5 _ (by omega), l4 _ (by omega), hq, show wsel p1 p2 p3 p4 p5 2 = p3 from rfl, ← n3 _ hm]; congr 1; omega
      · rw [l5 _ (by omega), hq, show wsel p1 p2 p3 p4 p5 3 = p4 from rfl, ← n4 _ hm]; congr 1; omega
      · rw [hq, show wsel p1 p2 p3 p4 p5 4 = p5 from rfl, ← n5 _ hm]; congr 1; omega
    have e224 : ∀ j, I5 224 j = I 224 j := fun j => by rw [F 224 (by decide) (by decide)]
    unfold f_X13_feed
    refine b_putI hM.1 (by decide) (b_getIv hM.1 ((st2_nk (by decide)).trans ((e224 8).trans d3)) ?_)
    rw [show zn w.2.2.2.2.2.2.1.1 + (20 : Int32) = zn (w.2.2.2.2.2.2.1.1 + 20) from zn_add _ 20]
    refine wp_ifp ((zn_le (b := 900) (by omega) (by omega)).mpr hr) (t_feedR hM ((st2_nk (by decide)).trans ((e224 8).trans d3)) hr (fun I6 f6 g6 h6 l6 n6 => ⟨?_, ?_⟩))
    · congr 1
    · refine ⟨_, _, _, rfl, hI.tp (n' := w.2.2.2.2.2.2.1.1 + 20) (b' := fun i => if i < w.2.2.2.2.2.2.1.1 then w.2.2.2.2.2.2.1.2 i else wby p1 p2 p3 p4 p5 (i - w.2.2.2.2.2.2.1.1)) (fun b x1 x2 x3 x4 => ?_) (fun j x1 x2 => ?_) hr ?_ h6 (fun i hi => ?_), ?_⟩
      · rw [f6 b x3 x4, st2_nb x3, F b x1 x2]
      · rw [g6 j x2, st2_nk (by omega), e224]
      · rw [f6 66 (by decide) (by decide), st2_nb (by decide)]; exact h5
      · rw [f6 67 (by decide) (by decide), st2_nb (by decide)]
        by_cases hi' : i < w.2.2.2.2.2.2.1.1
        · rw [if_pos hi', L i hi', l6 i hi', st2_nb (by decide), F 227 (by decide) (by decide)]
          exact d4 i hi'
        · rw [if_neg hi']
          have e : i = w.2.2.2.2.2.2.1.1 + (i - w.2.2.2.2.2.2.1.1) := by omega
          have hN := N (i - w.2.2.2.2.2.2.1.1) (by omega)
          have hn := n6 (i - w.2.2.2.2.2.2.1.1) (by omega)
          rw [← e] at hN hn
          exact ⟨byN_lt _, hN, hn⟩
      · refine hT.mv ?_ ?_ ?_
        · rw [f6 64 (by decide) (by decide), st2_nb (by decide), F 64 (by decide) (by decide)]
        · rw [g6 1 (by decide), st2_nk (by decide), e224]
        · rw [g6 2 (by decide), st2_nk (by decide), e224]
  · refine wp_ifp ?_ (b_rt (wp_ifn (by decide) (wp_rt ?_)))
    · show zn 900 < zn (w.2.2.2.2.2.2.1.1 + 20)
      rw [zn_lt (by omega) (by omega)]
      omega
    · unfold f_X13_feed
      refine b_putI hM.1 (by decide) (b_getIv hM.1 ((st2_nk (by decide)).trans d3) ?_)
      rw [show zn w.2.2.2.2.2.2.1.1 + (20 : Int32) = zn (w.2.2.2.2.2.2.1.1 + 20) from zn_add _ 20]
      refine wp_ifn (fun q => hr ((zn_le (b := 900) (by omega) (by omega)).mp q)) (wp_rt ⟨rfl, w, _, _, rfl, hI.m0p, hT.m0p⟩)
end
