/-! ===== powers and sums of any ints: they end, whatever they are ===== -/
theorem irem_zi' {a b : Int} (h1 : -2147483648 ≤ a) (h2 : a < 2147483648) (h3 : -2147483648 ≤ b) (h4 : b < 2147483648) : irem (zi a) (zi b) = zi (a.tmod b) := by
  unfold irem
  have e : zi a / zi b = zi (a.tdiv b) := by
    unfold zi
    rw [Int32.ofInt_tdiv]
    all_goals first | (show _ ≤ _; decide) | (simp only [Int32.toInt_minValue, Int32.toInt_maxValue]; omega)
  rw [e, zi_mul, zi_sub]
  congr 1
  have := Int.tmod_add_mul_tdiv a b
  rw [Int.mul_comm] at this
  omega
theorem t_floorAny {x : Int32} {n : Nat} {h : Hp} (h3 : 1 ≤ n) (h4 : n < 2147483648) : ∃ v, v < n ∧ f_J9_floorMod_7cf53 x (zn n) h = some (zn v, h) := by
  have h1 := Int32.le_toInt x
  have h2 := Int32.toInt_lt x
  generalize hv : x.toInt = v at h1 h2
  have hx0 : x = zi v := zi_of hv
  subst hx0
  have h2' : v < 2147483648 := by omega
  have hn0 : ¬ zn n = 0 := by
    rw [z_0, zn_inj h4 (by omega)]; omega
  obtain ⟨c1, c2⟩ := tmod_cases v (n := n) (by omega)
  have hb1 := Int.emod_nonneg v (show (n : Int) ≠ 0 by omega)
  have hb2 := Int.emod_lt_of_pos v (show (0 : Int) < n by omega)
  have er : zn (v % n).toNat = zi (v % n) := by rw [zn_zi]; congr 1; omega
  refine ⟨(v % n).toNat, by omega, ?_⟩
  unfold f_J9_floorMod_7cf53 mRq mNm
  rw [if_pos hn0, er]
  have en : zn n = zi n := zn_zi n
  rw [en, irem_zi' (by omega) h2' (by omega) (by omega)]
  have hx := xor32 (x := zi v) (y := zi n) (by rw [zi_toInt (by omega) (by omega)]; omega)
  rw [zi_toInt (by omega) h2'] at hx
  dsimp only
  by_cases h0 : 0 ≤ v
  · rw [if_pos (hx.mpr h0), c1 h0]; rfl
  · rw [if_neg (fun q => h0 (hx.mp q))]
    obtain ⟨d1, d2⟩ := c2 (by omega)
    by_cases hz : v.tmod n = 0
    · rw [hz, if_pos (by rfl), d1 hz]; rfl
    · have := d2 hz
      have hne : ¬ zi (v.tmod n) = 0 := by
        intro e
        have := congrArg Int32.toInt e
        rw [zi_toInt (by omega) (by omega)] at this
        exact hz this
      rw [if_neg hne, zi_add, d2 hz]; rfl
section
variable {β : Type} {kw : Nat → Int64} {K : List (Nat × Nat)} {I I' : Nat → Nat → Int32} {J J' : Nat → Nat → Int64} {A : Nat → Nat → Option Nat} {w : WD}
theorem t_collectAny {Q : Unit → Hp → Prop} {g n : Nat} {x : Int32} {v : Int64} (hR : RS K A g) (hn : 2 ≤ n ∧ n ≤ 12) (q : ∀ e, e < n → Q () (K, I, st2 J (g + 1) e (J (g + 1) e + v), A)) : wp (f_X5_collect (some g) x v (zn n)) Q (K, I, J, A) := by
  obtain ⟨r1, r2, r3, r4⟩ := hR
  obtain ⟨e, he, h⟩ := t_floorAny (x := x) (n := n) (h := (K, I, J, A)) (by omega) (by omega)
  unfold f_X5_collect
  refine wp_ifp (ge_t (b := 1) (by omega)) (b_eq h ?_)
  unfold f_X5_collect_j16
  exact wp_ifn (lt_f (b := 0) (by omega)) (b_getA r1 r2 (b_len r3 (by decide) (wp_ifn (ge_f (by omega)) (b_getA r1 r2 (b_ldJ r3 (by omega) (by omega) (b_stJ r3 (by omega) (by omega) (by omega) (wp_rt (q e he))))))))
theorem t_powerAny {Q : Unit → Hp → Prop} {g o n : Nat} {x : Int32} (hO : OT K I) (hR : RS K A g) (hn : 2 ≤ n ∧ n ≤ 12) (ho : kk K o = (2, 10)) (ho2 : 64 ≤ o) (hog : o ≠ g + 1)
    (q : ∀ J', (∀ b, b ≠ g + 1 → b ≠ o → J' b = J b) → Q () (K, I, J', A)) : wp (f_X5_powerOfZ (some g) x (some o) (zn n)) Q (K, I, J, A) := by
  have hR' := hR
  obtain ⟨r1, r2, r3, r4⟩ := hR'
  unfold f_X5_powerOfZ
  refine b_ck r1 (wp_bd (t_clear hR (fun J0 hf0 hv0 => b_ck r1 (wp_bd (t_collectAny hR hn (fun e he => b_ck r1 (wp_bd ?_)))))))
  refine t_settle hO hR hn ho ho2 hog (w := adw wz e 1) (ag_st2 hv0 (by rw [hv0 _ (by omega)])) (wz_low.adw he _) (fun J'' hf2 hv2 => wp_rt (q J'' (fun b h1 h2 => ?_)))
  rw [hf2 b h1 h2, st2_nb h1, hf0 b h1]
theorem t_charAny {Q : Int32 → Hp → Prop} {a p n x : Nat} {c : Int32} (hF : FS K A a) (hC : FC I a p n) (hpn : pn p n) (hx : x < p) (q : ∀ r, (r = -2 ∨ ∃ v, v < n ∧ r = zn v) → Q r (K, I, J, A)) : wp (f_X2_characterAt (some a) c (zn x)) Q (K, I, J, A) := by
  obtain ⟨hk, ⟨hA0, hA1, hA2⟩, ⟨hk1, hk2, hk3⟩, ha⟩ := hF
  obtain ⟨c1, c2, c3, c4⟩ := hC
  have hr := pn_rng hpn
  unfold f_X2_characterAt
  refine wp_ifq (not_congr (zn0 (by omega))) ?_
  by_cases h : x = 0
  · refine wp_ifn (fun q => q h) ?_
    by_cases h2 : c = 0
    · exact wp_ifn (fun q => q h2) (wp_rt (q _ (Or.inr ⟨0, by omega, rfl⟩)))
    · exact wp_ifp h2 (wp_rt (q _ (Or.inl rfl)))
  · refine wp_ifp h (b_getA hk hA0 (b_eq (t_cellp hk1 (by omega) (by omega)) (b_getIv hk c2 (b_eq (t_mod rfl (by omega) (by omega)) (wp_rt (q _ (Or.inr ⟨_, ?_, rfl⟩)))))))
    have := Int.emod_lt_of_pos ((c * I (a + 1) x).toInt64).toInt (show (0 : Int) < n by omega)
    have := Int.emod_nonneg ((c * I (a + 1) x).toInt64).toInt (show (n : Int) ≠ 0 by omega)
    omega
theorem t_jacobiAny {Q : Unit → Hp → Prop} {a p n g o : Nat} {c d : Int32} (hO : OT K I) (hF : FS K A a) (hC : FC I a p n) (hpn : pn p n) (hR : RS K A g) (ho : kk K o = (2, 10)) (ho2 : 64 ≤ o) (hog : o ≠ g + 1)
    (q : ∀ J', (∀ b, b ≠ g + 1 → b ≠ o → J' b = J b) → Q () (K, I, J', A)) : wp (f_X2_jacobiSum (some a) c d (some g) (some o)) Q (K, I, J, A) := by
  have hR' := hR
  have hF' := hF
  have hC' := hC
  obtain ⟨r1, r2, r3, r4⟩ := hR'
  obtain ⟨hk, ⟨hA0, hA1, hA2⟩, ⟨hk1, hk2, hk3⟩, ha⟩ := hF'
  obtain ⟨c1, c2, c3, c4⟩ := hC'
  have hr := pn_rng hpn
  unfold f_X2_jacobiSum
  refine b_ck r1 (wp_bd (t_clear hR (fun J0 hf0 hv0 => ?_)))
  unfold f_X2_jacobiSum_l7
  refine for1 (N := p) (fun x I' J' => I' = I ∧ (∀ b, b ≠ g + 1 → J' b = J b) ∧ ∃ w, Lown n w ∧ ∀ k, k < 12 → J' (g + 1) k = w k) ?_ ?_ (k := 0) (by omega) (by unfold fuel; omega) ⟨rfl, hf0, wz, wz_low, hv0⟩
  · rintro x I' J' R hx ⟨rfl, hfr, w, hw, hv⟩ hr'
    unfold f_X2_jacobiSum_b7
    refine b_getIv hk c1 (wp_ifn (ge_f (by omega)) (b_ck hk (wp_bd (t_charAny hF hC hpn hx (fun r3' h3 => b_getIv hk c1 ?_)))))
    rw [show ((1 : Int32) - zn x) = zi (1 - x) from by rw [zn_zi]; exact zi_sub 1 x]
    refine b_eq (t_mod (zj_zi (by omega) (by omega)) (by omega) (by omega)) ?_
    rw [mod1x hx (by omega)]
    have hm := Nat.mod_lt (p + 1 - x) (show p > 0 by omega)
    refine b_ck hk (wp_bd (t_charAny hF hC hpn hm (fun r6 h6 => ?_)))
    rcases h3 with h3 | ⟨u, hu, h3⟩
    · exact wp_ifp h3 (hr' _ _ ⟨rfl, hfr, w, hw, hv⟩)
    · refine wp_ifn (by rw [h3]; exact chiV_some (by omega)) ?_
      rcases h6 with h6 | ⟨v, hv6, h6⟩
      · exact wp_ifp h6 (hr' _ _ ⟨rfl, hfr, w, hw, hv⟩)
      · refine wp_ifn (by rw [h6]; exact chiV_some (by omega)) (b_getIv hk c2 (b_ck r1 ?_))
        refine wp_bd (t_collectAny hR (by omega) (fun e he => hr' _ _ ⟨rfl, fun b hb => ?_, adw w e 1, hw.adw he 1, ?_⟩))
        · rw [st2_nb hb]; exact hfr b hb
        · exact ag_st2 hv (by rw [hv _ (by omega)])
  · rintro I' J' R ⟨rfl, hfr, w, hw, hv⟩
    unfold f_X2_jacobiSum_b7
    refine b_getIv hk c1 (wp_ifp (ge_t (by omega)) (b_getIv hk c2 (b_ck r1 (wp_bd (t_settle hO hR (by omega) ho ho2 hog hv hw (fun J'' hf2 hv2 => wp_rt (q J'' (fun b h1 h2 => ?_))))))))
    rw [hf2 b h1 h2, hfr b h1]
end
