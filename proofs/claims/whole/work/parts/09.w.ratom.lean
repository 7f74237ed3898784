/-! ===== expressions: the reference's names and depths ===== -/
section
variable {β : Type} {kw : Nat → Int64} {K : List (Nat × Nat)} {I I' : Nat → Nat → Int32} {J J' : Nat → Nat → Int64} {A : Nat → Nat → Option Nat} {w : WD}
variable {b : Nat → Nat} {n t m p f fo rb r dd R : Nat} {B : BKD} {N : NMD} {at' : Nat → Bool → EX} {H : Bool}
theorem fnN_let {v : Int64} {l : Nat} (h : okNB B N) (hf : fnN N v 2 = some l) : l < bnl B ∧ ∃ k, rk N v = some k ∧ k < N.1 ∧ (N.2 k).2.1 = 2 ∧ (N.2 k).2.2 = l := by
  unfold fnN at hf
  cases hr : rk N v with
  | none => rw [hr] at hf; exact absurd hf (by simp)
  | some k =>
    rw [hr] at hf
    dsimp only at hf
    by_cases hs : (N.2 k).2.1 = 2
    · rw [if_pos hs] at hf
      have e : (N.2 k).2.2 = l := by simpa using hf
      exact ⟨by rw [← e]; exact (h k (rk_lt hr)).2.2 hs, k, rfl, rk_lt hr, hs, e⟩
    · rw [if_neg hs] at hf; exact absurd hf (by simp)
theorem o_named12 {x2 : Int32} (hS : YS K A rb B N f fo) (h : I 224 11 = 5) (hN : NmR I J rb N) : f_X13_readNamed_j12 (some 224) (zn f) x2 (K, I, J, A) = some ((), (K, I, J, A)) := by
  obtain ⟨hM, hSK, h4, hb, hBS, ⟨hk, hkN, hNB⟩, hf, hfo, hRF, hfo2⟩ := hS
  have hBS' := hBS
  obtain ⟨b0, ⟨a4, a5, a6, a7, a8, a9, a10, a11, a12, a13, a14⟩, ⟨k1, k2, k3, k4, k5, k6, k7, k8, k9, k10, k11⟩, hb64⟩ := hBS'
  have hN1 := hkN.1
  have j68 : ∀ x3 : Int32, wp (f_X13_readNamed_j68 (some 224) x2 x3) (fun r h' => r = () ∧ h' = (K, I, J, A)) (K, I, J, A) := fun x3 => by
    unfold f_X13_readNamed_j68
    exact b_getIv hM.1 h (wp_ifn (by decide) (wp_rt ⟨rfl, rfl⟩))
  have j63 : ∀ x3 : Int32, wp (f_X13_readNamed_j63 (some 224) x2 x3) (fun r h' => r = () ∧ h' = (K, I, J, A)) (K, I, J, A) := fun x3 => by
    unfold f_X13_readNamed_j63
    exact b_ck hM.1 (b_eq (o_wrong hM h) (j68 x3))
  apply wp_get'
  unfold f_X13_readNamed_j12
  refine b_getA hM.1 h4 (b_getJ hM.1 (b_ck b0 (b_eq (t_findR hBS hN hkN) ?_)))
  cases hr : rk N (J 224 17) with
  | none => exact wp_ifp rfl (j63 _)
  | some k =>
    have hlt := rk_lt hr
    obtain ⟨y1, y2, y3⟩ := hN.2 k hlt
    have hok := hkN.2 k hlt
    refine wp_ifn (fun q => ?_) (b_getA hM.1 h4 (b_getA b0 a13 (b_ldI k10 (by omega) (by omega) ?_)))
    · have q' : zn k = -1 := q
      rw [z_m1, zn_zi, zi_inj (by omega) (by omega) (by omega) (by omega)] at q'
      omega
    · by_cases hc : ¬ I (rb + 10) k = (2 : Int32)
      · exact wp_ifp hc (j63 _)
      · refine wp_ifn hc (b_getA hM.1 h4 (b_getA b0 a10 (b_getA hM.1 h4 (b_getA b0 a14 (b_ldI k11 (by omega) (by omega) ?_)))))
        rw [y3]
        refine b_ldI k7 (by omega) (by omega) ?_
        by_cases hc2 : I (rb + 7) (N.2 k).2.2 = zn f
        · exact wp_ifp hc2 (j68 _)
        · exact wp_ifn hc2 (j63 _)
theorem y_named {Q : Unit → Hp → Prop} (hS : YS K A rb B N f fo) (hI : YI K I J A rb b n B N t H (r + 1) dd) (hr : r < 47)
    (q1 : kd' kwC b n t ≠ 5 → Q () (K, over I 1 (ps b n t), J, A)) (q2 : kd' kwC b n t = 5 → (∀ l, fnN N (vl kwC b n t) 2 = some l → ¬ blf B l = f) → Q () (K, over I 2 (ps b n t), J, A))
    (qs : kd' kwC b n t = 5 → ∀ l, fnN N (vl kwC b n t) 2 = some l → blf B l = f → ∀ I' J', YF r I J I' J' → YI K I' J' A rb b n B N (t + 1) H (r + 1) dd → I' 224 15 = I 224 15 → (∀ k, k < 12 → rv J' 224 r k = blr B l k) → Q () (K, I', J', A)) : wp (f_X13_readNamed (some 224) (zn f) (zn r)) Q (K, I, J, A) := by
  have hS' := hS
  obtain ⟨hM, hSK, h4, hb, hBS, ⟨hk, hkN, hNB⟩, hf, hfo, hRF, hfo2⟩ := hS'
  have hBS' := hBS
  obtain ⟨b0, ⟨a4, a5, a6, a7, a8, a9, a10, a11, a12, a13, a14⟩, ⟨k1, k2, k3, k4, k5, k6, k7, k8, k9, k10, k11⟩, hb64⟩ := hBS'
  have hM' := hM
  obtain ⟨m0, ⟨c5, c6, c7, c21, c22, c23, c24, c25, c26, c27⟩, ⟨d1, d2, d3, d4, d5, d6, d7, d8, d9, d10⟩, hm64⟩ := hM'
  have hI' := hI
  obtain ⟨⟨hB, hRT, h5⟩, ⟨hC, hN⟩, h18, h19, h20⟩ := hI'
  have hN1 := hkN.1
  have hf4 := hk.1.1
  unfold f_X13_readNamed
  refine b_ck hM.1 (b_eq (t_isName hM hSK hRT) ?_)
  by_cases h : kd' kwC b n t = 5
  · rw [h]
    have hw : J 224 17 = vl kwC b n t := by
      obtain ⟨_, hh, _⟩ := hRT
      rcases hh with ⟨h1, _⟩ | ⟨h1, _⟩ | ⟨h1, _⟩ | ⟨h1, _⟩ | ⟨h1, _⟩ | ⟨h1, _, h3, _⟩
      · omega
      · omega
      · omega
      · omega
      · omega
      · exact h3
    have bad : (∀ l, fnN N (vl kwC b n t) 2 = some l → ¬ blf B l = f) → ∀ x3 : Int32, wp (f_X13_readNamed_j63 (some 224) (zn r) x3) Q (K, I, J, A) := by
      intro hno x3
      unfold f_X13_readNamed_j63 f_X13_readNamed_j68
      exact b_ck hM.1 (b_eq (t_wrong (k := 2) hM hRT h5) (b_getIv hM.1 over_11 (wp_ifn (by decide) (wp_rt (q2 h hno)))))
    refine wp_ifp (by decide) ?_
    unfold f_X13_readNamed_j12
    refine b_getA hM.1 h4 (b_getJv hM.1 hw (b_ck b0 (b_eq (t_findR hBS hN hkN) ?_)))
    cases hrk : rk N (vl kwC b n t) with
    | none => exact wp_ifp rfl (bad (fun l hl => by unfold fnN at hl; rw [hrk] at hl; exact absurd hl (by simp)) _)
    | some k =>
      have hlt := rk_lt hrk
      obtain ⟨y1, y2, y3⟩ := hN.2 k hlt
      have hok := hkN.2 k hlt
      refine wp_ifn (fun q => ?_) (b_getA hM.1 h4 (b_getA b0 a13 (b_ldI k10 (by omega) (by omega) ?_)))
      · have q' : zn k = -1 := q
        rw [z_m1, zn_zi, zi_inj (by omega) (by omega) (by omega) (by omega)] at q'
        omega
      · rw [y2]
        refine wp_ifq (not_congr (zn_inj (b := 2) (by omega) (by omega))) ?_
        by_cases hs : (N.2 k).2.1 = 2
        · have hfn : fnN N (vl kwC b n t) 2 = some (N.2 k).2.2 := by unfold fnN; rw [hrk]; exact if_pos hs
          obtain ⟨hl, _⟩ := fnN_let hNB hfn
          have hl8 := hk.2.2.1
          have hlf := (hk.2.2.2 _ hl).1
          refine wp_ifn (fun q => q hs) (b_getA hM.1 h4 (b_getA b0 a10 (b_getA hM.1 h4 (b_getA b0 a14 (b_ldI k11 (by omega) (by omega) ?_)))))
          rw [y3]
          refine b_ldI k7 (by omega) (by omega) ?_
          rw [(hC.2.2.2 _ hl).1]
          refine wp_ifq (zn_inj (by omega) (by omega)) ?_
          by_cases hlb : blf B (N.2 k).2.2 = f
          · refine wp_ifp hlb ?_
            unfold f_X13_readNamed_j68 f_X13_readNamed_l80
            refine b_getI hM.1 (wp_ifp h5 ?_)
            refine for1 (N := 12) (fun i I' J' => I' = I ∧ (∀ x, x ≠ 225 → J' x = J x) ∧ (∀ j, (j < r * 12 ∨ r * 12 + i ≤ j) → J' 225 j = J 225 j) ∧ ∀ j, j < i → J' 225 (r * 12 + j) = blr B (N.2 k).2.2 j) ?_ ?_ (k := 0) (by omega) (by unfold fuel; omega) ⟨rfl, fun _ _ => rfl, fun _ _ => rfl, fun j hj => absurd hj (Nat.not_lt_zero j)⟩
            · rintro i I' J' R' hi ⟨rfl, z1, z2, z3⟩ hR
              unfold f_X13_readNamed_b80
              refine wp_ifn (ge_f (b := 12) (by omega)) (b_getA hM.1 c5 (b_getA hM.1 h4 (b_getA b0 a11 (b_getA hM.1 h4 (b_getA b0 a14 (b_ldI k11 (by omega) (by omega) ?_))))))
              rw [y3, show ((12 : Int32) * zn (N.2 k).2.2) + zn i = zn ((N.2 k).2.2 * 12 + i) from by rw [show (12 : Int32) = zn 12 from rfl, zn_mul, zn_add, Nat.mul_comm]]
              refine b_ldJ k8 (by omega) (by omega) ?_
              rw [r12]
              refine b_stJ d1 (by omega) (by omega) (by omega) (hR _ _ ⟨rfl, fun x hx => by rw [st2_nb hx]; exact z1 x hx, fun j hj => by rw [st2_nk (by omega)]; exact z2 j (by omega), fun j hj => ?_⟩)
              by_cases hij : j = i
              · subst hij
                rw [st2_at, z1 _ (by omega)]
                exact (hC.2.2.2 _ hl).2 j hi
              · rw [st2_nk (by omega)]; exact z3 j (by omega)
            · rintro I' J' R' ⟨rfl, z1, z2, z3⟩
              unfold f_X13_readNamed_b80
              have F1 : YF r I' J I' J' := ⟨fun _ _ => rfl, fun _ _ => rfl, fun x _ a _ => z1 x a, fun j _ => by rw [z1 224 (by decide)], fun j hj => z2 j (Or.inl hj)⟩
              have Y1 : YI K I' J' A rb b n B N t H (r + 1) dd := hI.mv hS F1 (hRT.jj (by rw [z1 224 (by decide)])) h5 h18 h19 h20
              refine wp_ifp (ge_t (b := 12) (by omega)) (b_ck hM.1 (wp_bd (t_next hM Y1.1.1 Y1.1.2.1 h5 (by omega) (fun I2 J2 f2 r2 s2 => wp_rt (qs h _ hfn hlb I2 J2 (F1.trans f2.rw'.yf) (Y1.rf hS f2 r2 s2) (f2.2.1 15 (by omega)) (fun j hj => ?_))))))
              show J2 225 (r * 12 + j) = _
              rw [f2.2.2.1 225 (by decide)]
              exact z3 j hj
          · exact wp_ifn hlb (bad (fun l hl' => by
              rw [hfn] at hl'
              have : (N.2 k).2.2 = l := by simpa using hl'
              rw [← this]; exact hlb) _)
        · exact wp_ifp hs (bad (fun l hl => by unfold fnN at hl; rw [hrk] at hl; dsimp only at hl; rw [if_neg hs] at hl; exact absurd hl (by simp)) _)
  · rw [beq_eq_false_iff_ne.mpr h]
    refine wp_ifn (by decide) (b_ck hM.1 (b_eq (t_wrong (k := 1) hM hRT h5) ?_))
    unfold wp
    exact ⟨_, _, o_named12 hS over_11 (hN.rw' hb RW.over), q1 h⟩
theorem t_deeper {Q : Unit → Hp → Prop} (hS : YS K A rb B N f fo) (hI : YI K I J A rb b n B N t H r dd) (hk1 : kd' kwC b n t ≠ 1) (hd : dd ≤ 8)
    (q8 : dd = 8 → ∀ I', YF r I J I' J → I' 224 11 = 5 → I' 224 15 = zn 5 → I' 224 16 = zn (ps b n t) → Q () (K, I', J, A)) (q : dd < 8 → ∀ I' J', YF r I J I' J' → YI K I' J' A rb b n B N (t + 1) H r (dd + 1) → I' 224 15 = I 224 15 → Q () (K, I', J', A)) : wp (f_X13_deeper (some 224)) Q (K, I, J, A) := by
  have hM := hS.1
  have hI' := hI
  obtain ⟨⟨hB, hRT, h5⟩, ⟨hC, hN⟩, h18, h19, h20⟩ := hI'
  unfold f_X13_deeper
  refine b_getIv hM.1 h19 ?_
  by_cases h8 : dd = 8
  · refine wp_ifn (by rw [h8]; decide) (b_ck hM.1 (b_eq (t_wrong (k := 5) hM hRT h5) ?_))
    unfold f_X13_deeper_j14
    refine b_getI hM.1 (b_putI hM.1 (by decide) (b_ck hM.1 (b_eq (o_goesOn hM (by rw [st2_nk (by decide)]; exact over_11)) (wp_rt (q8 h8 _ (RW.over.yf.trans (YF.i (by omega))) (by rw [st2_nk (by decide)]; exact over_11) (by rw [st2_nk (by decide)]; exact over_15) (by rw [st2_nk (by decide)]; exact over_16))))))
  · refine wp_ifp (fun e => h8 ((zn_inj (b := 8) (by omega) (by omega)).mp e)) ?_
    unfold f_X13_deeper_j14
    refine b_getIv hM.1 h19 (b_putI hM.1 (by decide) ?_)
    rw [zn_succ]
    have Y1 : YI K (st2 I 224 19 (zn (dd + 1))) J A rb b n B N t H r (dd + 1) := hI.mv hS (q := 0) (YF.i (by omega)) (hRT.k (by omega)) (by rw [st2_nk (by omega)]; exact h5) (by rw [st2_nk (by omega)]; exact h18) st2_at (by rw [st2_nk (by omega)]; exact h20)
    refine b_ck hM.1 (wp_bd (t_next hM Y1.1.1 Y1.1.2.1 Y1.1.2.2 hk1 (fun I2 J2 f2 r2 s2 => wp_rt (q (by omega) I2 J2 ((YF.i (j := 19) (by omega)).trans f2.rw'.yf) (Y1.rf hS f2 r2 s2) ?_))))
    rw [f2.2.1 15 (by omega), st2_nk (by omega)]
end
