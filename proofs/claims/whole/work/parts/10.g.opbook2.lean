/-! ===== book, both ===== -/
section
variable {β : Type} {kw : Nat → Int64} {K : List (Nat × Nat)} {I I' : Nat → Nat → Int32} {J J' : Nat → Nat → Int64} {A : Nat → Nat → Option Nat} {w : WD}
variable {b : Nat → Nat} {n T t sb m : Nat} {B : BKD} {N : NMD} {A' A1 : Nat → Nat → Option Nat} {K' : List (Nat × Nat)}
theorem op_book {a : Int} (hI : Core kwC K I J A w) (hSK : SK K) (ha : -2147483648 ≤ a ∧ a < 2147483648) : Both (f_X10_book (some 64) (zi a)) (f_X13_book (some 224) (zi a)) (PostX K) (K, I, J, A) := by
  have hP : PS K A (276 - w.1) := hI.sh.2.2.2.2.2.2.2.2.1
  have hnb := hI.nb
  have hl := hI.len
  have hP' := hP
  obtain ⟨hk, ⟨h0, h1, h2, h3, h4, h5⟩, hT, hR, d1, d2, d3, hBs⟩ := hP'
  have hM := hI.ms
  have ht := hI.2.2.2.1
  unfold Both f_X10_book
  -- refused by 2
  have bad : ∀ {I1 : Nat → Nat → Int32}, I1 = st2 I 64 11 2 → ¬ (0 ≤ a ∧ a ≤ (w.2.2.2.2.2.2.1.1 : Int)) → wp (f_X13_book (some 224) (zi a)) (fun r' h2 => r' = -1 ∧ PostX K h2) (K, I1, J, A) := by
    intro I1 e1 hno
    subst e1
    unfold f_X13_book
    refine r_start hI.c (fun I1 hc h64 => ?_)
    have hbad : PostX K (K, st2 (st2 I1 224 1 2) 224 2 (-1), J, A) := PostX.of (fin hc (by rw [h64]; exact st2_at) rfl (by decide))
    by_cases ha0 : a < 0
    · exact wp_ifp (ilt_t (b := 0) (by omega)) (r_ref hc.m0 ⟨rfl, hbad⟩)
    · refine wp_ifn (ilt_f (b := 0) (by omega)) (b_getIv hc.m0.1 hc.2.2.2.1.2.2.1 ?_)
      rw [zn_zi w.2.2.2.2.2.2.1.1]
      exact wp_ifn (ile_f (by omega)) (r_ref hc.m0 ⟨rfl, hbad⟩)
  by_cases ha0 : a < 0
  · exact wp_ifp (ilt_t (b := 0) (by omega)) (e_ref hI.k64 (bad rfl (by omega)))
  refine wp_ifn (ilt_f (b := 0) (by omega)) ?_
  unfold f_X3_tape f_X9_bytesHeld
  refine b_getA hI.k64 (a64 hI).1 (b_ck hk (b_assoc (b_getA hk h0 (b_rt (b_ck hT.1 (b_assoc (b_getIv hT.1 ht.2.1 (b_rt ?_))))))))
  by_cases hle : a ≤ (w.2.2.2.2.2.2.1.1 : Int)
  case neg =>
    refine wp_ifn ?_ (e_ref hI.k64 (bad rfl (by omega)))
    rw [zn_zi w.2.2.2.2.2.2.1.1]
    exact ile_f (by omega)
  refine wp_ifp ?_ (b_getA hI.k64 (a64 hI).1 (b_ck hk ?_))
  · rw [zn_zi w.2.2.2.2.2.2.1.1]
    exact ile_t (by omega)
  rw [zi_nn (show 0 ≤ a by omega)]
  have hcn : a.toNat ≤ w.2.2.2.2.2.2.1.1 := by omega
  -- the reference's book, once the class has read
  have rbk : ∀ {I2 : Nat → Nat → Int32} {J2 : Nat → Nat → Int64} {A2 : Nat → Nat → Option Nat} {Q : Int32 → Hp → Prop}, MS K A2 224 → I2 224 8 = zn w.2.2.2.2.2.2.1.1 → I2 227 = I 227 →
      (∀ k s m I' J' A', sBook w.2.2.2.2.2.2.1.2 a.toNat = Sum.inl (k, s) → m ≤ 4 → RFb K.length (st2 I2 224 0 0) J2 A2 I' J' A' → MS ((K ++ (0, 9) :: bkL) ++ fks m) A' 224 → I' 224 15 = zn k → I' 224 16 = zn (ps w.2.2.2.2.2.2.1.2 a.toNat s) → wp (mBd (mGetI 11 15 (some 224)) (fun r4 => (if r4 ≤ 0 then mBd (mGetA 11 4 (some 224)) (fun r5 => mBd (mPutA 11 3 (some 224) r5) (fun _ => f_X13_book_l99 (some 224) (0 : Int32))) else mBd (mPutI 11 1 (some 224) (4 : Int32)) (fun _ => mBd (mGetI 11 16 (some 224)) (fun r10 => mBd (mPutI 11 2 (some 224) r10) (fun _ => mRt (-1 : Int32))))))) Q ((K ++ (0, 9) :: bkL) ++ fks m, I', J', A')) →
      (∀ B' N' I' J' A', sBook w.2.2.2.2.2.2.1.2 a.toNat = Sum.inr (B', N') → RFb K.length (st2 I2 224 0 0) J2 A2 I' J' A' → MS ((K ++ (0, 9) :: bkL) ++ fks (bnf B')) A' 224 → I' 224 15 = 0 → A' 224 4 = some K.length → BS ((K ++ (0, 9) :: bkL) ++ fks (bnf B')) A' K.length → RBC ((K ++ (0, 9) :: bkL) ++ fks (bnf B')) I' J' A' K.length B' → okB B' → 1 ≤ bnf B' → wp (mBd (mGetI 11 15 (some 224)) (fun r4 => (if r4 ≤ 0 then mBd (mGetA 11 4 (some 224)) (fun r5 => mBd (mPutA 11 3 (some 224) r5) (fun _ => f_X13_book_l99 (some 224) (0 : Int32))) else mBd (mPutI 11 1 (some 224) (4 : Int32)) (fun _ => mBd (mGetI 11 16 (some 224)) (fun r10 => mBd (mPutI 11 2 (some 224) r10) (fun _ => mRt (-1 : Int32))))))) Q ((K ++ (0, 9) :: bkL) ++ fks (bnf B'), I', J', A')) →
      wp (f_X13_book (some 224) (zn a.toNat)) Q (K, I2, J2, A2) := by
    intro I2 J2 A2 Q hM2 e8 e227 qe qs
    unfold f_X13_book
    refine b_putI hM2.1 (by decide) (wp_ifn (lt_f (b := 0) (by omega)) (b_getIv hM2.1 ((st2_nk (by decide)).trans e8) (wp_ifp ?_ ?_)))
    · rw [zn_le (by omega) (by omega)]; exact hcn
    · exact t_rRead (b := w.2.2.2.2.2.2.1.2) hM2 hSK (by omega) (by omega) (fun i hi => ⟨(ht.2.2.2 i (by omega)).1, by rw [st2_nb (by decide), e227]; exact (ht.2.2.2 i (by omega)).2.2⟩) qe qs
  refine wp_bd (t_cRead hI hSK hcn (fun k s T v I1 J1 g hk17 F1 hF => ?_) (fun B1 N1 v I1 J1 g F1 hb1 okb cB h7 hct => ?_))
  · -- a fault
    have hk1 : kk K 65 = (0, 3) := hk
    have a0 : st2 A 65 6 v 65 0 = some 66 := (st2_nk (by decide)).trans h0
    have hT1 : TS K (st2 A 65 6 v) := hT.ga Gr.rfl' (st2_nb (by decide))
    have a64' : ∀ j, st2 A 65 6 v 64 j = A 64 j := fun j => by rw [st2_nb (by decide)]
    have hF2 : FPC (st2 I1 64 9 (zn k)) J1 w.2.2.2.2.2.2.1.2 a.toNat T k s := hF.o (by decide)
    refine b_putI hI.k64 (by decide) (b_getA hI.k64 ((a64' 0).trans (a64 hI).1) (b_ck hk1 (b_eq (t_fpl hk1 a0 hT1 hF2) (b_putI hI.k64 (by decide) (b_getA hI.k64 ((a64' 0).trans (a64 hI).1) (b_ck hk1 ?_))))))
    unfold f_X9_empty
    refine b_assoc (b_getA hk1 a0 (b_rt (b_ck hT1.1 (b_assoc (b_putI hT1.1 (by decide) (b_rt (b_getIv (v := zn k) hI.k64 (by rw [st2_nb (by decide), st2_nk (by decide), st2_at]) (wp_ifn (by rw [zn0 (by omega)]; omega) (e_ref hI.k64 ?_)))))))))
    have e224 : (st2 (st2 (st2 (st2 I1 64 9 (zn k)) 64 10 (zn (ps w.2.2.2.2.2.2.1.2 a.toNat s))) 66 5 0) 64 11 4) 224 = I 224 := by
      rw [st2_nb (by decide), st2_nb (by decide), st2_nb (by decide), st2_nb (by decide)]; exact (F1 224 (by unfold crg; omega)).1
    have e227 : (st2 (st2 (st2 (st2 I1 64 9 (zn k)) 64 10 (zn (ps w.2.2.2.2.2.2.1.2 a.toNat s))) 66 5 0) 64 11 4) 227 = I 227 := by
      rw [st2_nb (by decide), st2_nb (by decide), st2_nb (by decide), st2_nb (by decide)]; exact (F1 227 (by unfold crg; omega)).1
    have hM2 : MS K (st2 A 65 6 v) 224 := hM.ga4 Gr.rfl' (fun j _ => by rw [st2_nb (by decide)])
    refine rbk hM2 (by rw [e224]; exact ht.2.2.1) e227 (fun k' s' m I3 J3 A3 g3 hm F3 hM3 o15 o16 => ?_) (fun B' N' I' J' A' g3 _ _ _ _ _ _ _ _ => by rw [g] at g3; exact (nlr g3.symm).elim)
    rw [g] at g3
    obtain ⟨ek, es⟩ := inl_eq g3
    subst ek; subst es
    refine b_getIv hM3.1 o15 (wp_ifn ?_ (b_putI hM3.1 (by decide) (b_getIv hM3.1 ((st2_nk (by decide)).trans o16) (b_putI hM3.1 (by decide) (wp_rt ⟨rfl, ?_⟩)))))
    · show ¬ zn k' ≤ zn 0
      rw [zn_le (by omega) (by omega)]; omega
    have b64 : ∀ j, (st2 (st2 I3 224 1 4) 224 2 (zn (ps w.2.2.2.2.2.2.1.2 a.toNat s'))) 64 j = (st2 (st2 (st2 (st2 I1 64 9 (zn k')) 64 10 (zn (ps w.2.2.2.2.2.2.1.2 a.toNat s'))) 66 5 0) 64 11 4) 64 j := fun j => by
      rw [st2_nb (by decide), st2_nb (by decide), F3.1 64 (by omega) (by decide), st2_nb (by decide)]
    rw [List.append_assoc] at hM3 ⊢
    refine ⟨_, 4, _, J3, A3, _, rfl, core_err (v := v) (k := k') (p := ps w.2.2.2.2.2.2.1.2 a.toNat s') hI gr_app (fun x hx hc h64 h224 => ?_) (fun j hj => ?_) (fun x hx hc h224 h225 h226 => ?_) (fun x hx h224 => F3.2.2.2.1 x hx h224) (fun j hj => ?_) hM3 ?_ ?_ ?_ ?_ ?_, ⟨by decide, ?_, ?_, ?_⟩, (ks_len m hm).1, (ks_len m hm).2⟩
    · have h66 : x ≠ 66 := fun q => hc (by unfold crg; omega)
      rw [st2_nb h224, st2_nb h224, F3.1 x hx h224, st2_nb h224, st2_nb h64, st2_nb h66, st2_nb h64, st2_nb h64]
      exact (F1 x hc).1
    · rw [st2_nk (by omega), st2_nk (by omega), F3.2.1 j (by omega), st2_nk (by omega), e224]
    · rw [F3.2.2.1 x hx h224 h225 h226]; exact (F1 x hc).2
    · rw [F3.2.2.2.2.1 j hj, st2_nb (by decide)]
    · rw [st2_nb (by decide), st2_nb (by decide), F3.1 66 (by omega) (by decide), st2_nb (by decide), st2_nb (by decide), st2_at]
    · rw [st2_nk (by decide), st2_nk (by decide)]; exact F3.2.2.2.2.2
    · rw [b64, st2_nk (by decide), st2_nb (by decide), st2_nk (by decide), st2_at]
    · rw [st2_nk (by decide), st2_nk (by decide)]; exact o15
    · rw [b64, st2_nk (by decide), st2_nb (by decide), st2_at]
    · rw [b64, st2_at]; rfl
    · rw [st2_nk (by decide), st2_at]; rfl
    · rw [st2_at, if_pos rfl]
      exact zn_zi _
  · -- the book is good
    obtain ⟨T, s, cT, hs⟩ := hct
    have hk1 : kk K 65 = (0, 3) := hk
    have a0 : st2 A 65 6 v 65 0 = some 66 := (st2_nk (by decide)).trans h0
    have hT1 : TS K (st2 A 65 6 v) := hT.ga Gr.rfl' (st2_nb (by decide))
    have a64' : ∀ j, st2 A 65 6 v 64 j = A 64 j := fun j => by rw [st2_nb (by decide)]
    have hF : FPC I1 J1 w.2.2.2.2.2.2.1.2 a.toNat T 0 s := Or.inr ⟨h7, cT, hs⟩
    have hF2 : FPC (st2 I1 64 9 0) J1 w.2.2.2.2.2.2.1.2 a.toNat T 0 s := hF.o (by decide)
    refine b_putI hI.k64 (by decide) (b_getA hI.k64 ((a64' 0).trans (a64 hI).1) (b_ck hk1 (b_eq (t_fpl hk1 a0 hT1 hF2) (b_putI hI.k64 (by decide) (b_getA hI.k64 ((a64' 0).trans (a64 hI).1) (b_ck hk1 ?_))))))
    unfold f_X9_empty
    refine b_assoc (b_getA hk1 a0 (b_rt (b_ck hT1.1 (b_assoc (b_putI hT1.1 (by decide) (b_rt (b_getIv (v := 0) hI.k64 (by rw [st2_nb (by decide), st2_nk (by decide), st2_at]) (wp_ifp rfl (b_getA hI.k64 ((a64' 0).trans (a64 hI).1) (b_getA hI.k64 ((a64' 8).trans hI.a8) (b_ck hk1 ?_)))))))))))
    unfold f_X3_exchange
    refine b_assoc (b_getA hk1 ((st2_nk (by decide)).trans h5) (b_ite (wp_ifn (by simp) (b_assoc (b_putA hk1 (by decide) (b_rt (b_putA hI.k64 (by decide) ?_)))))))
    have a28 : st2 (st2 (st2 A 65 6 v) 65 5 (some w.1)) 64 8 (some (276 - w.1)) 64 2 = some 162 := by rw [st2_nk (by decide), st2_nb (by decide), st2_nb (by decide)]; exact (a64 hI).2.2.1
    have hG2 : GS K (st2 (st2 (st2 A 65 6 v) 65 5 (some w.1)) 64 8 (some (276 - w.1))) 162 := hI.gs.ga Gr.rfl' (by rw [st2_nb (by decide), st2_nb (by decide), st2_nb (by decide)])
    refine b_getA hI.k64 a28 (b_ck hG2.1 (wp_bd (t_restart (U := w.2.2.2.1.2) (R := w.2.2.2.2.1.2) (M := w.2.2.2.2.2.1.2) hG2 (fun I2 J2 f2 j2 hRG => b_getA hI.k64 st2_at (b_ck hBs.1 ?_)))))
    have c7 : I2 (276 - w.1) 7 = zn (bnf B1) := by
      rw [f2 _ (by omega), st2_nb (by omega), st2_nb (by omega), st2_nb (by omega)]; exact cB.1.1
    unfold f_X0_fieldsHeld
    refine b_assoc (b_getIv hBs.1 c7 (b_rt (e_ans hI.k64 ?_)))
    have l2 : ∀ x, x ≠ 64 → x ≠ 66 → x ≠ 162 → (st2 I2 64 11 0) x = I1 x := fun x x1 x2 x3 => by rw [st2_nb x1, f2 x x3, st2_nb x2, st2_nb x1, st2_nb x1]
    have e224 : (st2 I2 64 11 0) 224 = I 224 := by rw [l2 224 (by decide) (by decide) (by decide)]; exact (F1 224 (by unfold crg; omega)).1
    have e227 : (st2 I2 64 11 0) 227 = I 227 := by rw [l2 227 (by decide) (by decide) (by decide)]; exact (F1 227 (by unfold crg; omega)).1
    have b64 : ∀ j, j ≠ 11 → (st2 I2 64 11 0) 64 j = (st2 (st2 I1 64 9 0) 64 10 (zn (ps w.2.2.2.2.2.2.1.2 a.toNat s))) 64 j := fun j hj => by rw [st2_nk hj, f2 64 (by decide), st2_nb (by decide)]
    have hM2 : MS K (st2 (st2 (st2 A 65 6 v) 65 5 (some w.1)) 64 8 (some (276 - w.1))) 224 := hM.ga4 Gr.rfl' (fun j _ => by rw [st2_nb (by decide), st2_nb (by decide), st2_nb (by decide)])
    have hSh2 : CSh K (st2 (st2 (st2 A 65 6 v) 65 5 (some w.1)) 64 8 (some (276 - w.1))) (276 - w.1) := (hI.sh.a6 (v := v)).ga Gr.rfl' (by omega) (fun x x1 x2 => by rw [st2_nb (by omega), st2_nb (by omega)]) (fun j hj => by rw [st2_nk hj, st2_nb (by decide)]) st2_at (fun j hj => by rw [st2_nb (by decide), st2_nk hj]) (by rw [st2_nb (by decide), st2_at]; congr 1; omega)
    refine rbk hM2 (by rw [e224]; exact ht.2.2.1) e227 (fun k' s' m I3 J3 A3 g3 _ _ _ _ _ => by rw [g] at g3; exact (nlr g3).elim) (fun B' N' I3 J3 A3 g3 F3 hM3 o15 o4 hB3 hC3 okb3 hb3 => ?_)
    rw [g] at g3
    have eB : B1 = B' := congrArg Prod.fst (Sum.inr.inj g3)
    subst eB
    have hf4 := okb.1.1
    refine b_getIv hM3.1 o15 (wp_ifp (by decide) (b_getA hM3.1 o4 (b_putA hM3.1 (by decide) ?_)))
    have hM4 : MS ((K ++ (0, 9) :: bkL) ++ fks (bnf B1)) (st2 A3 224 3 (some K.length)) 224 := hM3.ga4 Gr.rfl' (fun j hj => st2_nk (by omega))
    have hB4 : BS ((K ++ (0, 9) :: bkL) ++ fks (bnf B1)) (st2 A3 224 3 (some K.length)) K.length := hB3.ga Gr.rfl' (st2_nb (by omega))
    refine t_now0 (U := w.2.2.2.1.2) (R := w.2.2.2.2.1.2) (M := w.2.2.2.2.2.1.2) hM4 st2_at hB4.1 hC3.1.1 (by omega) (fun I4 J4 f4 g4 h41 h42 j4 hRR => ⟨rfl, ?_⟩)
    have hK : 236 ≤ K.length := by omega
    have e64 : ∀ j, I4 64 j = (st2 I2 64 11 0) 64 j := fun j => by rw [f4 64 (by decide), F3.1 64 (by omega) (by decide), st2_nb (by decide)]
    have eJ1 : ∀ x, x < K.length → x ≠ 224 → x ≠ 225 → x ≠ 226 → x ≠ 231 → x ≠ 163 → J4 x = J1 x := fun x hx x1 x2 x3 x4 x5 => by rw [j4 x x4, F3.2.2.1 x hx x1 x2 x3, j2 x x5]
    have eI1 : ∀ x, x < K.length → x ≠ 64 → x ≠ 66 → x ≠ 162 → x ≠ 224 → I4 x = I1 x := fun x hx x1 x2 x3 x4 => by rw [f4 x x4, F3.1 x hx x4, st2_nb x4]; exact l2 x x1 x2 x3
    rw [List.append_assoc] at hM4 hB4 hC3 hB3 ⊢
    refine ⟨_, 0, I4, J4, _, _, rfl, core_ok (p := ps w.2.2.2.2.2.2.1.2 a.toNat s) (rb := K.length) (b' := w.2.2.2.2.2.2.1.2) (B := B1) hI gr_app (fun x hx => ?_) ?_ ?_ hM4 okb ?_ st2_at hK hB4 ?_ hb1 ?_ hRR ?_ ?_ ?_ ?_ ?_, ⟨by decide, ?_, ?_, ?_⟩, (ks_len _ hf4).1, (ks_len _ hf4).2⟩
    · rw [eI1 x (by omega) (by omega) (by omega) (by omega) (by omega)]; exact (F1 x (by unfold crg; omega)).1
    · rw [eJ1 68 (by omega) (by decide) (by decide) (by decide) (by decide) (by decide)]; exact (F1 68 (by unfold crg; omega)).2
    · refine hSh2.ga gr_app (by omega) (fun x x1 x2 => ?_) (fun j _ => ?_) ?_ (fun j _ => ?_) ?_
      · rw [st2_nb (by omega), F3.2.2.2.1 x (by omega) (by omega)]
      · rw [st2_nb (by decide), F3.2.2.2.1 64 (by omega) (by decide)]
      · rw [st2_nb (by decide), F3.2.2.2.1 64 (by omega) (by decide)]; exact st2_at
      · rw [st2_nb (by decide), F3.2.2.2.1 65 (by omega) (by decide)]
      · rw [st2_nb (by decide), F3.2.2.2.1 65 (by omega) (by decide), st2_nb (by decide), st2_at]; congr 1; omega
    · exact cB.lo okb (fun x x1 x2 => ⟨eI1 x (by omega) (by omega) (by omega) (by omega) (by omega), eJ1 x (by omega) (by omega) (by omega) (by omega) (by omega) (by omega)⟩)
    · exact (hC3.ga hB3 Gr.rfl' (fun _ _ _ => rfl) (fun _ _ _ => rfl) (fun x x1 _ => by rw [st2_nb (by omega)]) hK).hi okb hK (fun x hx => f4 x (by omega)) (fun x hx => j4 x (by omega))
    · exact hRG.mv (by rw [f4 162 (by decide), F3.1 162 (by omega) (by decide), st2_nb (by decide), st2_nb (by decide)]) (by rw [j4 163 (by decide), F3.2.2.1 163 (by omega) (by decide) (by decide) (by decide)]) (by rw [j4 164 (by decide), F3.2.2.1 164 (by omega) (by decide) (by decide) (by decide)])
    · rw [f4 66 (by decide), F3.1 66 (by omega) (by decide), st2_nb (by decide), st2_nb (by decide), f2 66 (by decide), st2_at]
    · rw [g4 8 (by decide) (by decide) (by decide) (by decide) (by decide)]; exact F3.2.2.2.2.2
    · rw [e64, b64 9 (by decide), st2_nk (by decide), st2_at]
    · rw [g4 15 (by decide) (by decide) (by decide) (by decide) (by decide)]; exact o15
    · rw [e64, b64 10 (by decide), st2_at]
    · rw [e64, st2_at]; rfl
    · rw [h41]; rfl
    · rw [h42, if_neg (by decide)]
end
