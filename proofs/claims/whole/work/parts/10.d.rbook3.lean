/-! ===== book: the reference reads ===== -/
def RFb (l : Nat) (I : Nat → Nat → Int32) (J : Nat → Nat → Int64) (A : Nat → Nat → Option Nat) (I' : Nat → Nat → Int32) (J' : Nat → Nat → Int64) (A' : Nat → Nat → Option Nat) : Prop :=
  (∀ x, x < l → x ≠ 224 → I' x = I x) ∧ (∀ j, (j < 8 ∨ (16 < j ∧ j ≠ 18 ∧ j ≠ 19 ∧ j ≠ 20)) → I' 224 j = I 224 j) ∧ (∀ x, x < l → x ≠ 224 → x ≠ 225 → x ≠ 226 → J' x = J x) ∧ (∀ x, x < l → x ≠ 224 → A' x = A x) ∧ (∀ j, j ≠ 4 → A' 224 j = A 224 j) ∧ I' 224 8 = 0
section
variable {β : Type} {kw : Nat → Int64} {K : List (Nat × Nat)} {I I' : Nat → Nat → Int32} {J J' : Nat → Nat → Int64} {A : Nat → Nat → Option Nat} {w : WD}
variable {b : Nat → Nat} {n t : Nat}
theorem t_rRead {α : Type} {Z : Mo α} {Q : α → Hp → Prop} (hM : MS K A 224) (hSK : SK K) (hl : 236 ≤ K.length) (hn : n ≤ 900) (hb : ∀ i, i < n → (b i < 256 ∧ I 227 i = byS (b i)))
    (qe : ∀ k s m I' J' A', sBook b n = Sum.inl (k, s) → m ≤ 4 → RFb K.length I J A I' J' A' → MS ((K ++ (0, 9) :: bkL) ++ fks m) A' 224 → I' 224 15 = zn k → I' 224 16 = zn (ps b n s) → wp Z Q ((K ++ (0, 9) :: bkL) ++ fks m, I', J', A'))
    (qs : ∀ B' N' I' J' A', sBook b n = Sum.inr (B', N') → RFb K.length I J A I' J' A' → MS ((K ++ (0, 9) :: bkL) ++ fks (bnf B')) A' 224 → I' 224 15 = 0 → A' 224 4 = some K.length → BS ((K ++ (0, 9) :: bkL) ++ fks (bnf B')) A' K.length → RBC ((K ++ (0, 9) :: bkL) ++ fks (bnf B')) I' J' A' K.length B' → okB B' → 1 ≤ bnf B' → wp Z Q ((K ++ (0, 9) :: bkL) ++ fks (bnf B'), I', J', A')) :
    wp (mBd (mPutI 11 9 (some 224) (zn n)) (fun _ => mBd (mPutI 11 8 (some 224) (0 : Int32)) (fun _ => mBd (mPutI 11 10 (some 224) (0 : Int32)) (fun _ => mBd (mPutI 11 15 (some 224) (0 : Int32)) (fun _ => mBd (mNew 9) (fun r3 => mBd (mCk 9 r3 (f_X11_init r3)) (fun _ => mBd (mPutA 11 4 (some 224) r3) (fun _ => mBd (mPutI 11 11 (some 224) (0 : Int32)) (fun _ => mBd (mCk 11 (some 224) (f_X13_goesOn (some 224))) (fun _ => mBd (mCk 11 (some 224) (f_X13_readBook (some 224))) (fun _ => Z)))))))))))
      Q (K, I, J, A) := by
  refine b_putI hM.1 (by decide) (b_putI hM.1 (by decide) (b_putI hM.1 (by decide) (b_putI hM.1 (by decide) (t_newBook (by omega) (fun I1 J1 A1 e1 hBS hz hA => ?_)))))
  have g : Gr K (K ++ (0, 9) :: bkL) := gr_app
  have hM1 : MS (K ++ (0, 9) :: bkL) A1 224 := hM.ga g (fun j _ => by rw [(e1 224 (by omega)).2.2])
  refine b_putA hM1.1 (by decide) (b_putI hM1.1 (by decide) ?_)
  have hM2 : MS (K ++ (0, 9) :: bkL) (st2 A1 224 4 (some K.length)) 224 := hM1.ga4 Gr.rfl' (fun j hj => st2_nk (by omega))
  have hBS2 : BS (K ++ (0, 9) :: bkL) (st2 A1 224 4 (some K.length)) K.length := hBS.ga Gr.rfl' (st2_nb (by omega))
  have i9 : st2 I1 224 11 0 224 9 = zn n := by rw [st2_nk (by decide), (e1 224 (by omega)).1, st2_nk (by decide), st2_nk (by decide), st2_nk (by decide), st2_at]
  have i10 : st2 I1 224 11 0 224 10 = 0 := by rw [st2_nk (by decide), (e1 224 (by omega)).1, st2_nk (by decide), st2_at]
  have i8 : st2 I1 224 11 0 224 8 = 0 := by rw [st2_nk (by decide), (e1 224 (by omega)).1, st2_nk (by decide), st2_nk (by decide), st2_at]
  have i15 : st2 I1 224 11 0 224 15 = 0 := by rw [st2_nk (by decide), (e1 224 (by omega)).1, st2_at]
  have hBt : RB (st2 I1 224 11 0) b n := ⟨hn, i9, fun i hi => ⟨(hb i hi).1, by rw [st2_nb (by decide), (e1 227 (by omega)).1, st2_nb (by decide), st2_nb (by decide), st2_nb (by decide), st2_nb (by decide)]; exact (hb i hi).2⟩⟩
  refine b_ck hM2.1 (wp_bd (t_goesOn (kw := kwC) (t := 0) hM2 hBt (by rw [st2_at]; decide) ⟨0, Nat.zero_le _, i10, rfl⟩ (fun I2 J2 f2 r2 s2 => ?_)))
  have R0 : RFr K.length (st2 I1 224 11 0) J1 (st2 A1 224 4 (some K.length)) I2 J2 (st2 A1 224 4 (some K.length)) := f2.rw'.rfr
  have hin : ∀ {I3 : Nat → Nat → Int32} {J3 : Nat → Nat → Int64} {A3 : Nat → Nat → Option Nat}, RFr K.length I2 J2 (st2 A1 224 4 (some K.length)) I3 J3 A3 → RFb K.length I J A I3 J3 A3 := by
    intro I3 J3 A3 h
    have h' := R0.trans h
    refine ⟨fun x hx hx4 => ?_, fun j hj => ?_, fun x hx a a' a'' => ?_, fun x hx hx4 => ?_, fun j hj => ?_, ?_⟩
    · rw [h'.1 x hx hx4, st2_nb hx4, (e1 x hx).1, st2_nb hx4, st2_nb hx4, st2_nb hx4, st2_nb hx4]
    · rw [h'.2.1 j (by omega), st2_nk (by omega), (e1 224 (by omega)).1, st2_nk (by omega), st2_nk (by omega), st2_nk (by omega), st2_nk (by omega)]
    · rw [h'.2.2.1 x hx a a' a'', (e1 x hx).2.1]
    · rw [h'.2.2.2.2 x hx, st2_nb hx4, (e1 x hx).2.2]
    · rw [h'.2.2.2.2 224 (by omega), st2_nk hj, (e1 224 (by omega)).2.2]
    · rw [h'.2.1 8 (by omega)]; exact i8
  have ezI : ∀ x k, K.length ≤ x → x < K.length + 12 → I2 x k = 0 := fun x k a a' => by rw [f2.1 x (by omega), st2_nb (by omega)]; exact (hz x a a' k).1
  have eK0 : K ++ (0, 9) :: bkL = (K ++ (0, 9) :: bkL) ++ fks (bnf B0) := by
    show _ = _ ++ []
    rw [List.append_nil]
  have hSK1 : SK (K ++ (0, 9) :: bkL) := hSK.ga
  have hRRd : RRd (K ++ (0, 9) :: bkL) I2 J2 (st2 A1 224 4 (some K.length)) K.length b n B0 N0 0 := ⟨⟨st2_at, hl, hBS2⟩, ⟨hBt.mv f2, r2, s2, by rw [f2.2.1 15 (by omega)]; exact i15⟩, ⟨⟨⟨ezI _ _ (by omega) (by omega), ezI _ _ (by omega) (by omega), ezI _ _ (by omega) (by omega)⟩, fun f hf => absurd hf (Nat.not_lt_zero f), fun f hf => absurd hf (Nat.not_lt_zero f), fun f hf => absurd hf (Nat.not_lt_zero f)⟩, ⟨ezI _ _ (by omega) (by omega), fun f hf => absurd hf (Nat.not_lt_zero f)⟩⟩, B0_ok, N0_ok, rfl⟩
  refine b_ck hM2.1 (wp_bd ?_)
  unfold f_X13_readBook f_X13_readBook_l2
  have key := t_rBk (b := b) (n := n) (rb := K.length) (Kb := K ++ (0, 9) :: bkL) (Q := fun _ h => wp Z Q h) hl 901 fuel 0 B0 N0 I2 J2 (st2 A1 224 4 (some K.length)) (by omega) (by omega) (by unfold fuel; omega)
  rw [← eK0] at key
  exact key hM2 hSK1 hRRd NB0_ok (fun k s m I3 J3 A3 g3 hm F3 hM3 o2 o3 => qe k s m I3 J3 A3 g3 hm (hin F3) hM3 o2 o3) (fun B3 N3 I3 J3 A3 g3 F3 hM3 o15 o4 hB3 hC3 okb3 hb1 => qs B3 N3 I3 J3 A3 g3 (hin F3) hM3 o15 (by rw [F3.2.2.2.2 224 (by omega)]; exact st2_at) hB3 hC3 okb3 hb1)
end
