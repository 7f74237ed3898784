/-! ===== the reference reads a field's line, the end ===== -/
section
variable {β : Type} {kw : Nat → Int64} {K : List (Nat × Nat)} {I I' : Nat → Nat → Int32} {J J' : Nat → Nat → Int64} {A : Nat → Nat → Option Nat} {w : WD}
variable {b : Nat → Nat} {n T t rb : Nat} {B : BKD} {N : NMD} {K' : List (Nat × Nat)} {A' : Nat → Nat → Option Nat}
theorem RBC.rw' {B : BKD} (hk : okB B) (h : RBC K I J A rb B) (hb : 236 ≤ rb) (f : RW I J I' J') : RBC K I' J' A rb B := by
  obtain ⟨⟨o1, o2⟩, ⟨o3, o4⟩, ⟨o5, o6⟩⟩ := hk
  obtain ⟨⟨x1, x2, x3⟩, x4, x5, x6⟩ := h
  have eI : ∀ x, 236 ≤ x → I' x = I x := fun x hx => f.1 x (by omega)
  have eJ : ∀ x, 236 ≤ x → J' x = J x := fun x hx => f.2.2.1 x (by omega)
  refine ⟨⟨by rw [eI _ (by omega)]; exact x1, by rw [eI _ (by omega)]; exact x2, by rw [eI _ (by omega)]; exact x3⟩, fun f hf => ?_, fun i hi => ?_, fun l hl => ⟨by rw [eI _ (by omega)]; exact (x6 l hl).1, fun i hi => by rw [eJ _ (by omega)]; exact (x6 l hl).2 i hi⟩⟩
  · obtain ⟨fo, z1, z2, z3, z4⟩ := x4 f hf
    exact ⟨fo, z1, z2, z3, (z4.mvI (eI _ (by omega)) (eI _ (by omega))).mv (eJ _ (by omega))⟩
  · obtain ⟨z1, z2, z3, z4⟩ := x5 i hi
    exact ⟨by rw [eI _ (by omega)]; exact z1, by rw [eI _ (by omega)]; exact z2, by rw [eI _ (by omega)]; exact z3, fun t ht => ⟨by rw [eI _ (by omega)]; exact (z4 t ht).1, by rw [eI _ (by omega)]; exact (z4 t ht).2⟩⟩
/-- a new field is put into the book under way -/
theorem t_putField {Q : Unit → Hp → Prop} {p m : Nat} {v : Int64} (hM : MS K A 224) (h4 : A 224 4 = some rb) (hb : 236 ≤ rb) (hB : BS K A rb) (hC : RBC K I J A rb B) (hN : NmR I J rb N) (hk : okB B) (hnf : bnf B < 4) (hN1 : N.1 < 16) (hpm : pn p m)
    (q : ∀ I' J' A', (∀ x, x < K.length → x ≠ rb → x ≠ rb + 10 → x ≠ rb + 11 → I' x = I x) → (∀ x, x < K.length → x ≠ rb + 9 → J' x = J x) → (∀ x, x < K.length → x ≠ rb + 1 → A' x = A x) → BS (K ++ fldK) A' rb → RBC (K ++ fldK) I' J' A' rb (addFl B p m) → NmR I' J' rb (addN N v 0 (bnf B)) → Q () (K ++ fldK, I', J', A')) :
    wp (mBd (mGetA 11 4 (some 224)) (fun r8 => mBd (mGetA 9 4 r8) (fun r9 => mBd (mGetA 11 4 (some 224)) (fun r10 => mBd (mGetI 9 0 r10) (fun r11 => mBd (mNew 10) (fun r12 => mBd (mCk 10 r12 (f_X12_init r12 (zn p) (zn m))) (fun _ => mBd (mStA 7 r9 r11 r12) (fun _ => mBd (mGetA 11 4 (some 224)) (fun r13 => mBd (mGetI 9 0 r13) (fun r14 => mBd (mCk 11 (some 224) (f_X13_names (some 224) v (0 : Int32) r14)) (fun _ => mBd (mGetA 11 4 (some 224)) (fun r15 => mBd (mGetI 9 0 r15) (fun r16 => mBd (mPutI 9 0 r15 (r16 + (1 : Int32))) (fun _ => mRt ()))))))))))))))  Q (K, I, J, A) := by
  have hl : rb + 11 < K.length := kk_lt hB.2.2.1.2.2.2.2.2.2.2.2.2.2 (by decide)
  have hC' := hC
  obtain ⟨⟨x1, x2, x3⟩, x4, x5, x6⟩ := hC'
  have hk' := hk
  obtain ⟨⟨o1, o2⟩, ⟨o3, o4⟩, ⟨o5, o6⟩⟩ := hk'
  refine b_getA hM.1 h4 (b_getA hB.1 hB.2.1.1 (b_getA hM.1 h4 (b_getIv hB.1 x1 (t_newField hpm (by omega) (fun I1 J1 A1 e1 e2 e3 hF hFC => ?_)))))
  have g : Gr K (K ++ fldK) := gr_app
  have hM1 : MS (K ++ fldK) A1 224 := hM.ga g (fun j _ => by rw [e3 224 (by omega)])
  have hB1 : BS (K ++ fldK) A1 rb := hB.ga g (e3 rb (by omega))
  refine b_stA hB1.2.2.1.1 (by omega) (by omega) (by omega) hF.1 hF.2.2.2 ?_
  have hM2 : MS (K ++ fldK) (st2 A1 (rb + 1) (bnf B) (some K.length)) 224 := hM1.ga Gr.rfl' (fun j _ => st2_na (by omega))
  have hB2 : BS (K ++ fldK) (st2 A1 (rb + 1) (bnf B) (some K.length)) rb := hB1.ga Gr.rfl' (st2_nb (by omega))
  have h42 : st2 A1 (rb + 1) (bnf B) (some K.length) 224 4 = some rb := by rw [st2_na (by omega), e3 224 (by omega)]; exact h4
  have hN2 : NmR I1 J1 rb N := ⟨by rw [e1 rb (by omega)]; exact hN.1, fun k hk => ⟨by rw [e2 _ (by omega)]; exact (hN.2 k hk).1, by rw [e1 _ (by omega)]; exact (hN.2 k hk).2.1, by rw [e1 _ (by omega)]; exact (hN.2 k hk).2.2⟩⟩
  have x1' : I1 rb 0 = zn (bnf B) := by rw [e1 rb (by omega)]; exact x1
  refine b_getA hM2.1 h42 (b_getIv hB2.1 x1' (b_ck hM2.1 (wp_bd (t_names (s := 0) (v := v) hM2 h42 hB2 hN2 hN1 (fun I3 J3 f1 f2 f3 hN3 => b_getA hM2.1 h42 (b_getIv hB2.1 ((f2 0 (by decide)).trans x1') (b_putI hB2.1 (by omega) (wp_rt ?_))))))))
  rw [zn_succ]
  have eI : ∀ x, x < K.length → x ≠ rb → x ≠ rb + 10 → x ≠ rb + 11 → st2 I3 rb 0 (zn (bnf B + 1)) x = I x := fun x a b c d => by rw [st2_nb b, f1 x b c d, e1 x a]
  have eJ : ∀ x, x < K.length → x ≠ rb + 9 → J3 x = J x := fun x a b => by rw [f3 x b, e2 x a]
  have eA : ∀ x, x < K.length → x ≠ rb + 1 → st2 A1 (rb + 1) (bnf B) (some K.length) x = A x := fun x a b => by rw [st2_nb b, e3 x a]
  refine q _ _ _ eI eJ eA hB2 ⟨⟨st2_at, ?_, ?_⟩, fun f hf => ?_, fun i hi => ?_, fun l hl' => ⟨?_, fun i hi => ?_⟩⟩ ⟨?_, fun k hk => ?_⟩
  · rw [st2_nk (by decide), f2 1 (by decide), e1 rb (by omega)]; exact x2
  · rw [st2_nk (by decide), f2 2 (by decide), e1 rb (by omega)]; exact x3
  · have hf2 : f < bnf B + 1 := hf
    by_cases h : f = bnf B
    · subst h
      have ep : bfp (addFl B p m) (bnf B) = p := by unfold bfp addFl; simp
      have em : bfn (addFl B p m) (bnf B) = m := by unfold bfn addFl; simp
      rw [ep, em]
      refine ⟨K.length, st2_at, by omega, hF.ga Gr.rfl' (st2_nb (by omega)), (hFC.mvI ?_ ?_).mv ?_⟩
      · rw [st2_nb (by omega), f1 _ (by omega) (by omega) (by omega)]
      · rw [st2_nb (by omega), f1 _ (by omega) (by omega) (by omega)]
      · rw [f3 _ (by omega)]
    · have ep : bfp (addFl B p m) f = bfp B f := by unfold bfp addFl; simp [h]
      have em : bfn (addFl B p m) f = bfn B f := by unfold bfn addFl; simp [h]
      rw [ep, em]
      obtain ⟨fo, z1, z2, z3, z4⟩ := x4 f (by omega)
      have hl2 : fo + 2 < K.length := kk_lt z3.2.2.1.2 (by decide)
      have d0 : kk K fo = (0, 10) := z3.1
      have d1 : kk K (fo + 1) = (1, 200) := z3.2.2.1.1
      have d2 : kk K (fo + 2) = (2, 13) := z3.2.2.1.2
      have b9 : kk K (rb + 9) = (2, 16) := hB.2.2.1.2.2.2.2.2.2.2.2.1
      have b10 : kk K (rb + 10) = (1, 16) := hB.2.2.1.2.2.2.2.2.2.2.2.2.1
      have b11 : kk K (rb + 11) = (1, 16) := hB.2.2.1.2.2.2.2.2.2.2.2.2.2
      have b0 : kk K rb = (0, 9) := hB.1
      have b1 : kk K (rb + 1) = (7, 4) := hB.2.2.1.1
      have ne : ∀ {x y : Nat} {k1 k2 : Nat × Nat}, kk K x = k1 → kk K y = k2 → k1 ≠ k2 → x ≠ y := fun h1 h2 h3 e => h3 (by rw [← h1, e, h2])
      refine ⟨fo, ?_, z2, z3.ga g (eA _ (by omega) (ne d0 b1 (by decide))), (z4.mvI (eI _ (by omega) (ne d0 b0 (by decide)) (ne d0 b10 (by decide)) (ne d0 b11 (by decide))) (eI _ (by omega) (ne d1 b0 (by decide)) (ne d1 b10 (by decide)) (ne d1 b11 (by decide)))).mv (eJ _ (by omega) (ne d2 b9 (by decide)))⟩
      rw [st2_nk h, e3 _ (by omega)]; exact z1
  · have hi' : i < bne B := hi
    obtain ⟨z1, z2, z3, z4⟩ := x5 i hi'
    exact ⟨by rw [eI _ (by omega) (by omega) (by omega) (by omega)]; exact z1, by rw [eI _ (by omega) (by omega) (by omega) (by omega)]; exact z2, by rw [eI _ (by omega) (by omega) (by omega) (by omega)]; exact z3, fun t ht => ⟨by rw [eI _ (by omega) (by omega) (by omega) (by omega)]; exact (z4 t ht).1, by rw [eI _ (by omega) (by omega) (by omega) (by omega)]; exact (z4 t ht).2⟩⟩
  · have hl2 : l < bnl B := hl'
    rw [eI _ (by omega) (by omega) (by omega) (by omega)]; exact (x6 l hl2).1
  · have hl2 : l < bnl B := hl'
    rw [eJ _ (by omega) (by omega)]; exact (x6 l hl2).2 i hi
  · rw [st2_nk (by decide)]; exact hN3.1
  · obtain ⟨y1, y2, y3⟩ := hN3.2 k hk
    exact ⟨y1, by rw [st2_nb (by omega)]; exact y2, by rw [st2_nb (by omega)]; exact y3⟩
end
