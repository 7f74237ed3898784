/-! ===== registers: undo, redo, image, restore ===== -/
section
variable {β : Type} {kw : Nat → Int64} {K : List (Nat × Nat)} {I I' : Nat → Nat → Int32} {J J' : Nat → Nat → Int64} {A : Nat → Nat → Option Nat} {w : WD}
theorem rst.same {f f' : Nat → Int64} {p : Nat} {S : RSt} (h : rst f p S) (hf : ∀ j, f' j = f j) : rst f' p S := ⟨by rw [hf]; exact h.1, fun r hr i hi => by rw [hf]; exact h.2 r hr i hi⟩
theorem op_undo (hI : Core kw K I J A w) : Both (f_X10_undo (some 64)) (f_X13_undo (some 224)) (PostE kw K A) (K, I, J, A) := by
  unfold Both f_X10_undo
  have hnb := hI.nb
  obtain ⟨hu20, hr20, hk4⟩ := hI.ule
  refine b_getA hI.k64 (a64 hI).2.2.1 (b_ck hI.gs.1 (wp_bd (t_stepBack hI.gs hI.rgc (fun h0 => wp_ifp rfl (e_den hI.k64 ?_)) (fun h1 I1 hf1 hC1 => wp_ifn (by decide) (e_gra hI.k64 ?_)))))
  · unfold f_X13_undo
    refine r_start (hI).c (fun I1 hc h64 => ?_)
    refine b_getIv hc.m0.1 hc.rgr.1.1 ?_
    rw [h0]
    exact wp_ifn (by decide) (r_den hc.m0 ⟨rfl, (fin hc (by rw [h64]; exact st2_at) rfl (by decide)).e⟩)
  · have hur : w.2.2.2.1.1 + w.2.2.2.2.1.1 ≤ 20 := hI.rgr.2.1.1
    have hD : CDone I J (st2 I1 64 11 0) J w 0 (w.2.2.2.1.2 (w.2.2.2.1.1 - 1)) (w.2.2.2.1.1 - 1) w.2.2.2.1.2 (w.2.2.2.2.1.1 + 1) (pushF w.2.2.2.2.1.1 w.2.2.2.2.1.2 w.2.2.1) w.2.2.2.2.2.1.1 w.2.2.2.2.2.1.2 := by
      refine ⟨fun b _ h2 h3 => ?_, fun j hj => ?_, st2_at, fun _ _ _ _ => rfl, hC1.mv (st2_nb (by decide)) rfl rfl⟩
      · rw [st2_nb h3]; exact hf1 b h2
      · rw [st2_nk hj, hf1 64 (by decide)]
    unfold f_X13_undo
    refine r_startR (hI.rc hD) (fun I3 hc ha3 hb3 => ?_)
    have hM := hc.1
    obtain ⟨⟨i28, i29, i30⟩, -, hS, hU, hR, hMM⟩ := hc.2.2.2
    refine b_getIv hM.1 i28 (wp_ifp ((not_congr (zn0 (by omega))).mpr (by omega)) (b_getA hM.1 hM.2.1.2.2.2.2.2.2.2.2.1 (b_getIv hM.1 i29 (b_ck hM.1 (wp_bd (t_keeps (y := 224 + 9) hM hM.2.2.1.2.2.2.2.2.2.2.2.1 (by omega) (by omega) (by omega) (by omega) (fun J1 hf1' hv1 hw1 => ?_)))))))
    refine b_getIv hM.1 i29 (b_putI hM.1 (by decide) (b_getIv hM.1 ((st2_nk (by decide)).trans i28) (b_putI hM.1 (by decide) (b_getA hM.1 hM.2.1.2.2.2.2.2.2.2.1 (b_getIv hM.1 st2_at (b_ck hM.1 ?_))))))
    rw [show zn w.2.2.2.1.1 - (1 : Int32) = zn (w.2.2.2.1.1 - 1) from zn_pred1 (by omega)]
    refine wp_bd (t_takes (y := 224 + 8) hM hM.2.2.1.2.2.2.2.2.2.2.1 (by omega) (by omega) (by omega) (fun J2 hf2 hv2 => b_ck hM.1 (b_eq (t_granted ⟨hM.1, by decide⟩) (wp_rq (by decide) (wp_rt ⟨rfl, ?_⟩)))))
    refine done hI hD (RDone.pre (I1' := I3) (J1' := J) ⟨fun b _ hb => ?_, fun j a1 a2 a3 a4 => ?_, (st2_nk (by decide)).trans st2_at, st2_at, fun b _ a1 a2 a3 a4 => ?_, ⟨?_, ?_, ?_⟩, ⟨by omega, hk4⟩, ?_, fun j hj => ?_, fun j hj => ?_, fun j hj => ?_⟩ ha3 hb3 (fun _ _ => rfl)) (by decide) (hI.oU _ (by omega)) (fun j hj => hI.oU j (by omega)) (pushF_ok hI.oR hI.oS) hI.oM (fun q => by have := hI.kz q; omega)
    · rw [st2_nb hb, st2_nb hb, st2_nb hb, st2_nb hb]
    · rw [st2_nk (by omega), st2_nk (by omega), st2_nk a2, st2_nk a3]
    · rw [hf2 b a1, hf1' b a3]
    · rw [st2_nk (by decide), st2_nk (by decide), st2_at]
    · rw [st2_nk (by decide), st2_nk (by decide), st2_nk (by decide), st2_at, zn_succ]
    · rw [st2_nk (by decide), st2_nk (by decide), st2_nk (by decide), st2_nk (by decide)]; exact i30
    · refine rst.copy (f := J (224 + 8)) (s := w.2.2.2.1.1 - 1) (t := 0) (hU _ (by omega)) (fun i hi => ?_)
      rw [hv2 i hi, hf1' (224 + 8) (by decide)]
    · rw [hf2 _ (by decide), hf1' _ (by decide)]; exact hU j (by omega)
    · rw [hf2 _ (by decide)]
      unfold pushF
      by_cases h : j = w.2.2.2.2.1.1
      · subst h
        rw [if_pos rfl]
        exact rst.copy hS (fun i hi => hv1 i hi)
      · rw [if_neg h]
        exact rst.keep (hR j (by omega)) h hw1
    · rw [hf2 _ (by decide), hf1' _ (by decide)]; exact hMM j hj
theorem op_redo (hI : Core kw K I J A w) : Both (f_X10_redo (some 64)) (f_X13_redo (some 224)) (PostE kw K A) (K, I, J, A) := by
  unfold Both f_X10_redo
  have hnb := hI.nb
  obtain ⟨hu20, hr20, hk4⟩ := hI.ule
  refine b_getA hI.k64 (a64 hI).2.2.1 (b_ck hI.gs.1 (wp_bd (t_stepOn hI.gs hI.rgc (fun h0 => wp_ifp rfl (e_den hI.k64 ?_)) (fun h1 I1 hf1 hC1 => wp_ifn (by decide) (e_gra hI.k64 ?_)))))
  · unfold f_X13_redo
    refine r_start (hI).c (fun I1 hc h64 => ?_)
    refine b_getIv hc.m0.1 hc.rgr.1.2.1 ?_
    rw [h0]
    exact wp_ifn (by decide) (r_den hc.m0 ⟨rfl, (fin hc (by rw [h64]; exact st2_at) rfl (by decide)).e⟩)
  · have hur : w.2.2.2.1.1 + w.2.2.2.2.1.1 ≤ 20 := hI.rgr.2.1.1
    have hD : CDone I J (st2 I1 64 11 0) J w 0 (w.2.2.2.2.1.2 (w.2.2.2.2.1.1 - 1)) (w.2.2.2.1.1 + 1) (pushF w.2.2.2.1.1 w.2.2.2.1.2 w.2.2.1) (w.2.2.2.2.1.1 - 1) w.2.2.2.2.1.2 w.2.2.2.2.2.1.1 w.2.2.2.2.2.1.2 := by
      refine ⟨fun b _ h2 h3 => ?_, fun j hj => ?_, st2_at, fun _ _ _ _ => rfl, hC1.mv (st2_nb (by decide)) rfl rfl⟩
      · rw [st2_nb h3]; exact hf1 b h2
      · rw [st2_nk hj, hf1 64 (by decide)]
    unfold f_X13_redo
    refine r_startR (hI.rc hD) (fun I3 hc ha3 hb3 => ?_)
    have hM := hc.1
    obtain ⟨⟨i28, i29, i30⟩, -, hS, hU, hR, hMM⟩ := hc.2.2.2
    refine b_getIv hM.1 i29 (wp_ifp ((not_congr (zn0 (by omega))).mpr (by omega)) (b_getA hM.1 hM.2.1.2.2.2.2.2.2.2.1 (b_getIv hM.1 i28 (b_ck hM.1 (wp_bd (t_keeps (y := 224 + 8) hM hM.2.2.1.2.2.2.2.2.2.2.1 (by omega) (by omega) (by omega) (by omega) (fun J1 hf1' hv1 hw1 => ?_)))))))
    refine b_getIv hM.1 i28 (b_putI hM.1 (by decide) (b_getIv hM.1 ((st2_nk (by decide)).trans i29) (b_putI hM.1 (by decide) (b_getA hM.1 hM.2.1.2.2.2.2.2.2.2.2.1 (b_getIv hM.1 st2_at (b_ck hM.1 ?_))))))
    rw [show zn w.2.2.2.2.1.1 - (1 : Int32) = zn (w.2.2.2.2.1.1 - 1) from zn_pred1 (by omega)]
    refine wp_bd (t_takes (y := 224 + 9) hM hM.2.2.1.2.2.2.2.2.2.2.2.1 (by omega) (by omega) (by omega) (fun J2 hf2 hv2 => b_ck hM.1 (b_eq (t_granted ⟨hM.1, by decide⟩) (wp_rq (by decide) (wp_rt ⟨rfl, ?_⟩)))))
    refine done hI hD (RDone.pre (I1' := I3) (J1' := J) ⟨fun b _ hb => ?_, fun j a1 a2 a3 a4 => ?_, (st2_nk (by decide)).trans st2_at, st2_at, fun b _ a1 a2 a3 a4 => ?_, ⟨?_, ?_, ?_⟩, ⟨by omega, hk4⟩, ?_, fun j hj => ?_, fun j hj => ?_, fun j hj => ?_⟩ ha3 hb3 (fun _ _ => rfl)) (by decide) (hI.oR _ (by omega)) (pushF_ok hI.oU hI.oS) (fun j hj => hI.oR j (by omega)) hI.oM (fun q => by have := hI.kz q; omega)
    · rw [st2_nb hb, st2_nb hb, st2_nb hb, st2_nb hb]
    · rw [st2_nk (by omega), st2_nk (by omega), st2_nk a3, st2_nk a2]
    · rw [hf2 b a1, hf1' b a2]
    · rw [st2_nk (by decide), st2_nk (by decide), st2_nk (by decide), st2_at, zn_succ]
    · rw [st2_nk (by decide), st2_nk (by decide), st2_at]
    · rw [st2_nk (by decide), st2_nk (by decide), st2_nk (by decide), st2_nk (by decide)]; exact i30
    · refine rst.copy (f := J (224 + 9)) (s := w.2.2.2.2.1.1 - 1) (t := 0) (hR _ (by omega)) (fun i hi => ?_)
      rw [hv2 i hi, hf1' (224 + 9) (by decide)]
    · rw [hf2 _ (by decide)]
      unfold pushF
      by_cases h : j = w.2.2.2.1.1
      · subst h
        rw [if_pos rfl]
        exact rst.copy hS (fun i hi => hv1 i hi)
      · rw [if_neg h]
        exact rst.keep (hU j (by omega)) h hw1
    · rw [hf2 _ (by decide), hf1' _ (by decide)]; exact hR j (by omega)
    · rw [hf2 _ (by decide), hf1' _ (by decide)]; exact hMM j hj
theorem t_images {G : Int32 → Mo β} {Q : β → Hp → Prop} {g : Nat} {S : RSt} {u : Nat} {U : Nat → RSt} {r : Nat} {R : Nat → RSt} {k : Nat} {M : Nat → RSt} (hG : GS K A g) (hC : RGC I J g S u U r R k M) (q : wp (G (zn k)) Q (K, I, J, A)) : wp (mBd (f_X4_imagesHeld (some g)) G) Q (K, I, J, A) := by
  unfold f_X4_imagesHeld
  obtain ⟨c, x1, ⟨x2, x3, x4, x5⟩, x6⟩ := hC
  exact b_assoc (b_getIv hG.1 x5 (b_rt q))
theorem t_toUndo {G : Int32 → Mo β} {Q : β → Hp → Prop} {g : Nat} {S : RSt} {u : Nat} {U : Nat → RSt} {r : Nat} {R : Nat → RSt} {k : Nat} {M : Nat → RSt} (hG : GS K A g) (hC : RGC I J g S u U r R k M) (q : wp (G (zn u)) Q (K, I, J, A)) : wp (mBd (f_X4_actsToUndo (some g)) G) Q (K, I, J, A) := by
  unfold f_X4_actsToUndo
  obtain ⟨c, x1, ⟨x2, x3, x4, x5⟩, x6⟩ := hC
  exact b_assoc (b_getIv hG.1 x3 (b_rt q))
theorem t_toRedo {G : Int32 → Mo β} {Q : β → Hp → Prop} {g : Nat} {S : RSt} {u : Nat} {U : Nat → RSt} {r : Nat} {R : Nat → RSt} {k : Nat} {M : Nat → RSt} (hG : GS K A g) (hC : RGC I J g S u U r R k M) (q : wp (G (zn r)) Q (K, I, J, A)) : wp (mBd (f_X4_actsToRedo (some g)) G) Q (K, I, J, A) := by
  unfold f_X4_actsToRedo
  obtain ⟨c, x1, ⟨x2, x3, x4, x5⟩, x6⟩ := hC
  exact b_assoc (b_getIv hG.1 x4 (b_rt q))
theorem op_image (hI : Core kw K I J A w) : Both (f_X10_image (some 64)) (f_X13_image (some 224)) (PostE kw K A) (K, I, J, A) := by
  unfold Both f_X10_image f_X0_fieldsHeld
  have hnb := hI.nb
  have hn4 := hI.ok.1.1
  obtain ⟨hu20, hr20, hk4⟩ := hI.ule
  have hur : w.2.2.2.1.1 + w.2.2.2.2.1.1 ≤ 20 := hI.rgr.2.1.1
  refine b_getA hI.k64 hI.a8 (b_ck hI.cbs.1 (b_assoc (b_getIv hI.cbs.1 hI.2.1.1.1.1 (b_rt ?_))))
  by_cases h0 : bnf w.2.1 = 0
  · rw [h0]
    refine wp_ifn (by decide) (e_ref hI.k64 ?_)
    unfold f_X13_image
    refine r_start (hI).c (fun I1 hc h64 => ?_)
    rcases hc.rb with ⟨h3, _⟩ | ⟨b, _, _, _, _, h1⟩
    · exact b_getA hc.m0.1 h3 (wp_ifp rfl (r_ref hc.m0 ⟨rfl, (fin hc (by rw [h64]; exact st2_at) rfl (by decide)).e⟩))
    · omega
  · refine wp_ifp ((not_congr (zn0 (by omega))).mpr h0) (b_getA hI.k64 (a64 hI).2.2.1 (b_ck hI.gs.1 (t_images hI.gs hI.rgc (b_getA hI.k64 (a64 hI).2.2.1 (b_ck hI.gs.1 (wp_bd (t_keepImage hI.gs hI.rgc (fun hk => wp_ifp rfl (e_ref hI.k64 ?_)) (fun hk I1 J1 hf1 hj1 hC1 => wp_ifn (by decide) (e_ans hI.k64 ?_)))))))))
    · unfold f_X13_image
      refine r_start (hI).c (fun I1 hc h64 => ?_)
      rcases hc.rb with ⟨_, h1, _⟩ | ⟨b, h3, _, _, _, _⟩
      · exact absurd h1 h0
      · refine b_getA hc.m0.1 h3 (wp_ifn (by simp) (b_getIv hc.m0.1 hc.rgr.1.2.2 ?_))
        rw [hk]
        exact wp_ifn (by decide) (r_ref hc.m0 ⟨rfl, (fin hc (by rw [h64]; exact st2_at) rfl (by decide)).e⟩)
    · have hD : CDone I J (st2 I1 64 11 0) J1 w 0 w.2.2.1 w.2.2.2.1.1 w.2.2.2.1.2 w.2.2.2.2.1.1 w.2.2.2.2.1.2 (w.2.2.2.2.2.1.1 + 1) (pushF w.2.2.2.2.2.1.1 w.2.2.2.2.2.1.2 w.2.2.1) := by
        refine ⟨fun b _ h2 h3 => ?_, fun j hj => ?_, st2_at, fun b _ _ h3 => hj1 b h3, hC1.mv (st2_nb (by decide)) rfl rfl⟩
        · rw [st2_nb h3]; exact hf1 b h2
        · rw [st2_nk hj, hf1 64 (by decide)]
      unfold f_X13_image
      refine r_startR (hI.rc hD) (fun I3 hc ha3 hb3 => ?_)
      have hM := hc.1
      obtain ⟨⟨i28, i29, i30⟩, -, hS, hU, hR, hMM⟩ := hc.2.2.2
      rcases hc.2.1 with ⟨_, h1, _⟩ | ⟨b, h3, _, _, _, _⟩
      · exact absurd h1 h0
      · refine b_getA hM.1 h3 (wp_ifn (by simp) (b_getIv hM.1 i30 (wp_ifp ((not_congr (zn_inj (b := 4) (by omega) (by omega))).mpr (by omega)) (b_getA hM.1 hM.2.1.2.2.2.2.2.2.2.2.2 (b_getIv hM.1 i30 (b_ck hM.1 (wp_bd (t_keeps (y := 224 + 10) hM hM.2.2.1.2.2.2.2.2.2.2.2.2 (by omega) (by omega) (by omega) (by omega) (fun J4 hf1' hv1 hw1 => ?_)))))))))
        refine b_getIv hM.1 i30 (b_putI hM.1 (by decide) (b_getIv hM.1 st2_at (b_ck hM.1 ?_)))
        rw [show zn w.2.2.2.2.2.1.1 + 1 - (1 : Int32) = zn w.2.2.2.2.2.1.1 from by rw [zn_succ, zn_pred1 (by omega)]; rfl]
        refine b_eq (t_good ⟨hM.1, by decide⟩) (wp_rt ⟨rfl, ?_⟩)
        refine done hI hD (RDone.pre (I1' := I3) (J1' := J1) ⟨fun b _ hb => ?_, fun j a1 a2 a3 a4 => ?_, (st2_nk (by decide)).trans st2_at, st2_at, fun b _ a1 a2 a3 a4 => hf1' b a4, ⟨?_, ?_, ?_⟩, ⟨hur, by omega⟩, ?_, fun j hj => ?_, fun j hj => ?_, fun j hj => ?_⟩ ha3 hb3 (fun _ _ => rfl)) (by decide) hI.oS hI.oU hI.oR (pushF_ok hI.oM hI.oS) (fun q => absurd q h0)
        · rw [st2_nb hb, st2_nb hb, st2_nb hb]
        · rw [st2_nk (by omega), st2_nk (by omega), st2_nk a4]
        · rw [st2_nk (by decide), st2_nk (by decide), st2_nk (by decide)]; exact i28
        · rw [st2_nk (by decide), st2_nk (by decide), st2_nk (by decide)]; exact i29
        · rw [st2_nk (by decide), st2_nk (by decide), st2_at, zn_succ]
        · rw [hf1' _ (by decide)]; exact hS
        · rw [hf1' _ (by decide)]; exact hU j hj
        · rw [hf1' _ (by decide)]; exact hR j hj
        · unfold pushF
          by_cases h : j = w.2.2.2.2.2.1.1
          · subst h
            rw [if_pos rfl]
            exact rst.copy hS (fun i hi => hv1 i hi)
          · rw [if_neg h]
            exact rst.keep (hMM j (by omega)) h hw1
theorem op_restore {a : Int} (hI : Core kw K I J A w) (ha : -2147483648 ≤ a ∧ a < 2147483648) : Both (f_X10_restore (some 64) (zi a)) (f_X13_restore (some 224) (zi a)) (PostE kw K A) (K, I, J, A) := by
  unfold Both f_X10_restore
  have hnb := hI.nb
  obtain ⟨hu20, hr20, hk4⟩ := hI.ule
  have bad : ¬ (0 ≤ a ∧ a < w.2.2.2.2.2.1.1) → wp (f_X13_restore (some 224) (zi a)) (fun r' h2 => r' = 0 ∧ PostE kw K A h2) (K, st2 I 64 11 1, J, A) := by
    intro hbad
    unfold f_X13_restore
    refine r_start (hI).c (fun I1 hc h64 => ?_)
    rcases hc.rb with ⟨h3, _⟩ | ⟨b, h3, _, _, _, _⟩
    · exact b_getA hc.m0.1 h3 (wp_ifp rfl (r_den hc.m0 ⟨rfl, (fin hc (by rw [h64]; exact st2_at) rfl (by decide)).e⟩))
    · refine b_getA hc.m0.1 h3 (wp_ifn (by simp) ?_)
      by_cases h1 : a < 0
      · exact wp_ifp (ilt_t (b := 0) (by omega)) (r_den hc.m0 ⟨rfl, (fin hc (by rw [h64]; exact st2_at) rfl (by decide)).e⟩)
      · refine wp_ifn (ilt_f (b := 0) (by omega)) (b_getIv hc.m0.1 hc.rgr.1.2.2 ?_)
        rw [zn_zi]
        exact wp_ifn (ilt_f (by omega)) (r_den hc.m0 ⟨rfl, (fin hc (by rw [h64]; exact st2_at) rfl (by decide)).e⟩)
  by_cases h1 : a < 0
  · exact wp_ifp (ilt_t (b := 0) (by omega)) (e_den hI.k64 (bad (by omega)))
  · refine wp_ifn (ilt_f (b := 0) (by omega)) (b_getA hI.k64 (a64 hI).2.2.1 (b_ck hI.gs.1 (t_images hI.gs hI.rgc ?_)))
    by_cases h2 : a < w.2.2.2.2.2.1.1
    · refine wp_ifp (by rw [zn_zi]; exact ilt_t (by omega)) (b_getA hI.k64 (a64 hI).2.2.1 (b_ck hI.gs.1 (wp_bd (t_beginAct hI.gs hI.rgc (fun I1 J1 hf1 hj1 hC1 => b_getA hI.k64 (a64 hI).2.2.1 (b_ck hI.gs.1 ?_))))))
      rw [zi_nn (show 0 ≤ a by omega)]
      refine wp_bd (t_bringBack hI.gs hC1 (by omega) (fun J2 hj2 hC2 => e_gra hI.k64 ?_))
      have hD : CDone I J (st2 I1 64 11 0) J2 w 0 (w.2.2.2.2.2.1.2 a.toNat) (actN w.2.2.2.1.1) (actF w.2.2.2.1.1 w.2.2.2.1.2 w.2.2.1) 0 w.2.2.2.2.1.2 w.2.2.2.2.2.1.1 w.2.2.2.2.2.1.2 := by
        refine ⟨fun b _ h2 h3 => ?_, fun j hj => ?_, st2_at, fun b h1 h2 h3 => ?_, hC2.mv (st2_nb (by decide)) rfl rfl⟩
        · rw [st2_nb h3]; exact hf1 b h2
        · rw [st2_nk hj, hf1 64 (by decide)]
        · rw [hj2 b h2, hj1 b h2]
      unfold f_X13_restore
      refine r_startR (hI.rc hD) (fun I3 hc ha3 hb3 => ?_)
      have hM := hc.1
      rcases hc.2.1 with ⟨_, h1, _⟩ | ⟨b, h3, _, _, _, _⟩
      · have := hI.kz h1; omega
      · refine b_getA hM.1 h3 (wp_ifn (by simp) (wp_ifn (lt_f (b := 0) (by omega)) (b_getIv hM.1 hc.2.2.2.1.2.2 (wp_ifp (lt_t (by omega)) (b_ck hM.1 (wp_bd (t_acts hM hc.2.2.2 (fun I4 J4 hf4 hg4 h41 h42 hj4 hG4 => b_getA hM.1 hM.2.1.2.2.2.2.2.2.2.2.2 (b_ck hM.1 (wp_bd (t_takes (y := 224 + 10) hM hM.2.2.1.2.2.2.2.2.2.2.2.2 (by omega) (by omega) (by omega) (fun J5 hf5 hv5 => wp_rt ⟨rfl, ?_⟩))))))))))))
        obtain ⟨g1, g2, gS, gU, gR, gM⟩ := hG4
        refine done hI hD (RDone.pre (I1' := I3) (J1' := J2) ⟨fun b _ hb => hf4 b hb, fun j a1 a2 a3 a4 => hg4 j (by omega) (by omega) a2 a3, h41, h42, fun b _ a1 a2 _ _ => (hf5 b a1).trans (hj4 b a2), g1, g2, ?_, fun j hj => ?_, fun j hj => ?_, fun j hj => ?_⟩ ha3 hb3 (fun _ _ => rfl)) (by decide) (hI.oM _ (by omega)) (actF_ok hu20 hI.oU hI.oS) (fun j hj => by omega) hI.oM (fun q => by have := hI.kz q; omega)
        · refine rst.copy (f := J4 (224 + 10)) (s := a.toNat) (t := 0) (gM _ (by omega)) (fun i hi => hv5 i hi)
        · rw [hf5 _ (by decide)]; exact gU j hj
        · rw [hf5 _ (by decide)]; exact gR j hj
        · rw [hf5 _ (by decide)]; exact gM j hj
    · exact wp_ifn (by rw [zn_zi]; exact ilt_f (by omega)) (e_den hI.k64 (bad (by omega)))
end
