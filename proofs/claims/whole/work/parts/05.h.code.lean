/-! X13_readAtom -/
def f_X13_readAtom_j56 (g_X13_readSum : (Option Nat) → (Option Nat) → Int32 → Mo Int32) (g_X13_readProduct : (Option Nat) → (Option Nat) → Int32 → Mo Int32) (g_X13_readAtom : (Option Nat) → (Option Nat) → Int32 → Mo Int32) (g_X13_turnsAtom : (Option Nat) → (Option Nat) → Int32 → Int32 → Mo Int32) (x0 : (Option Nat)) (s0 : Int32) : Mo Int32 :=
  mBd (mCk 11 x0 (f_X13_needsSign x0 (41 : Int32))) (fun _ => mBd (mGetI 11 19 x0) (fun r30 => mBd (mPutI 11 19 x0 (r30 - (1 : Int32))) (fun _ => mRt s0)))
set_option maxRecDepth 100000 in
theorem s_X13_readAtom_j56 {cx : CX} {d : Nat} {g_X13_readSum : (Option Nat) → (Option Nat) → Int32 → Mo Int32} {g_X13_readProduct : (Option Nat) → (Option Nat) → Int32 → Mo Int32} {g_X13_readAtom : (Option Nat) → (Option Nat) → Int32 → Mo Int32} {g_X13_turnsAtom : (Option Nat) → (Option Nat) → Int32 → Int32 → Mo Int32} (hg_X13_readSum : ∀ (a0 : (Option Nat)) (a1 : (Option Nat)) (a2 : Int32), Cn cx.1 (m_X13_readSum d) eI [vA a0, vA a1, vI a2] (mCk 11 a0 (g_X13_readSum a0 a1 a2))) (hg_X13_readProduct : ∀ (a0 : (Option Nat)) (a1 : (Option Nat)) (a2 : Int32), Cn cx.1 (m_X13_readProduct d) eI [vA a0, vA a1, vI a2] (mCk 11 a0 (g_X13_readProduct a0 a1 a2))) (hg_X13_readAtom : ∀ (a0 : (Option Nat)) (a1 : (Option Nat)) (a2 : Int32), Cn cx.1 (m_X13_readAtom d) eI [vA a0, vA a1, vI a2] (mCk 11 a0 (g_X13_readAtom a0 a1 a2))) (hg_X13_turnsAtom : ∀ (a0 : (Option Nat)) (a1 : (Option Nat)) (a2 : Int32) (a3 : Int32), Cn cx.1 (m_X13_turnsAtom d) eI [vA a0, vA a1, vI a2, vI a3] (mCk 11 a0 (g_X13_turnsAtom a0 a1 a2 a3))) (x0 : (Option Nat)) (s0 : Int32) : Sn cx (m_X13_readAtom (d + 1)) eI 56 [(0, vA x0)] [vI s0] (f_X13_readAtom_j56 g_X13_readSum g_X13_readProduct g_X13_readAtom g_X13_turnsAtom x0 s0) := by
  refine sn_istore (y := (m_X13_readAtom (d + 1))) (pc := 56) dX13_readAtom_56 rfl ?_
  refine sn_aload_n (y := (m_X13_readAtom (d + 1))) (pc := 58) dX13_readAtom_58 rfl ?_
  refine sn_bipush (y := (m_X13_readAtom (d + 1))) (pc := 59) dX13_readAtom_59 kc_bipush_41 ?_
  refine sn_invV (y := (m_X13_readAtom (d + 1))) (pc := 61) ca_11 (av := [vI (41 : Int32)]) (o := x0) (st := []) dX13_readAtom_61 lk_X13_341 im_X13_needsSign se_X13_needsSign rfl rfl rfl rfl ⟨by show 4 + 1 ≤ 10 + (d + 1); omega, by show 8 + (2 + 11) + 73 ≤ 203 + 60 * (d + 1); omega⟩ (c_X13_needsSign cx.1 x0 (41 : Int32)) (fun _ => ?_)
  refine sn_aload_n (y := (m_X13_readAtom (d + 1))) (pc := 64) dX13_readAtom_64 rfl ?_
  refine sn_dup (y := (m_X13_readAtom (d + 1))) (pc := 65) rfl dX13_readAtom_65 ?_
  refine sn_getI (y := (m_X13_readAtom (d + 1))) (pc := 66) ca_11 rfl fk_X13_307 (fun _ _ _ => rfl) dX13_readAtom_66 (fun r30 => ?_)
  refine sn_iconst (y := (m_X13_readAtom (d + 1))) (pc := 69) dX13_readAtom_69 kc_iconst_1 ?_
  refine sn_isub (y := (m_X13_readAtom (d + 1))) (pc := 70) dX13_readAtom_70 ?_
  refine sn_putI (y := (m_X13_readAtom (d + 1))) (pc := 71) ca_11 rfl fk_X13_307 (Or.inl rfl) rfl dX13_readAtom_71 ?_
  refine sn_iload (y := (m_X13_readAtom (d + 1))) (pc := 74) dX13_readAtom_74 rfl ?_
  exact sn_ireturn rfl dX13_readAtom_76
def fb_X13_readAtom (g_X13_readSum : (Option Nat) → (Option Nat) → Int32 → Mo Int32) (g_X13_readProduct : (Option Nat) → (Option Nat) → Int32 → Mo Int32) (g_X13_readAtom : (Option Nat) → (Option Nat) → Int32 → Mo Int32) (g_X13_turnsAtom : (Option Nat) → (Option Nat) → Int32 → Int32 → Mo Int32) (p0 : (Option Nat)) (p1 : (Option Nat)) (p2 : Int32) : Mo Int32 :=
  mBd (mGetI 11 18 p0) (fun r1 => mBd (mGetI 11 18 p0) (fun r2 => mBd (mPutI 11 18 p0 (r2 + (1 : Int32))) (fun _ => mBd (mCk 11 p0 (f_X13_isSign p0 (40 : Int32))) (fun r3 => (if r3 = 0 then mBd (mCk 11 p0 (f_X13_isWord p0 ((some 17)))) (fun r4 => (if r4 = 0 then mBd (mCk 11 p0 (f_X13_isWord p0 ((some 18)))) (fun r5 => (if r5 = 0 then mBd (mCk 11 p0 (f_X13_eatsWord p0 ((some 15)))) (fun r6 => (if r6 = 0 then mBd (mCk 11 p0 (f_X13_eatsWord p0 ((some 16)))) (fun r7 => (if r7 = 0 then mBd (mGetI 11 11 p0) (fun r8 => (if ¬ r8 = (3 : Int32) then mBd (mCk 11 p0 (f_X13_readNamed p0 p2 r1)) (fun _ => mRt r1) else mBd (mCk 11 p0 (f_X13_readWhole p0 (0 : Int32) (999 : Int32))) (fun r9 => mBd (mCk 11 p0 (f_X13_wholeRow p0 r1 (r9.toInt64))) (fun _ => mRt r1)))) else mBd (mGetI 10 1 p1) (fun r10 => mBd (mCk 11 p0 (f_X13_readWhole p0 (0 : Int32) (r10 - (1 : Int32)))) (fun r11 => mBd (mCk 11 p0 (f_X13_needsSign p0 (44 : Int32))) (fun _ => mBd (mGetI 10 1 p1) (fun r12 => mBd (mCk 11 p0 (f_X13_readWhole p0 (0 : Int32) (r12 - (1 : Int32)))) (fun r13 => mBd (mGetI 11 11 p0) (fun r14 => (if r14 = (5 : Int32) then mRt r1 else mBd (mCk 11 p0 (f_X13_jacobiRow p0 p1 r11 r13 r1)) (fun _ => mRt r1)))))))))) else mBd (mCk 11 p0 (f_X13_readWhole p0 (0 : Int32) (99 : Int32))) (fun r15 => mBd (mCk 11 p0 (f_X13_clearWide p0)) (fun _ => mBd (mGetA 11 6 p0) (fun r16 => mBd (mGetI 10 1 p1) (fun r17 => mRq (¬ r17 = 0) (mBd (mStJ r16 (irem r15 r17) (1 : Int64)) (fun _ => mBd (mCk 11 p0 (f_X13_settles p0 p1 r1)) (fun _ => mRt r1))))))))) else mBd (mGetI 11 18 p0) (fun r18 => mBd (mPutI 11 18 p0 (r18 - (1 : Int32))) (fun _ => mBd (mCk 11 p0 (f_X13_deeper p0)) (fun _ => mBd (mGetI 10 1 p1) (fun r19 => mBd (mCk 11 p0 (f_X13_bounded p0 (1 : Int32) (r19 - (1 : Int32)))) (fun r20 => mBd (mCk 10 p1 (f_X12_isUnit p1 r20)) (fun r21 => (if ¬ r21 = 0 then mBd (mCk 11 p0 (f_X13_goesOn p0)) (fun _ => mBd (mCk 11 p0 (g_X13_turnsAtom p0 p1 p2 r20)) (fun r22 => mRt r22)) else mBd (mCk 11 p0 (f_X13_wrong p0 (4 : Int32))) (fun _ => mBd (mCk 11 p0 (f_X13_goesOn p0)) (fun _ => mBd (mCk 11 p0 (g_X13_turnsAtom p0 p1 p2 r20)) (fun r23 => mRt r23)))))))))))) else mBd (mGetI 11 18 p0) (fun r24 => mBd (mPutI 11 18 p0 (r24 - (1 : Int32))) (fun _ => mBd (mCk 11 p0 (f_X13_deeper p0)) (fun _ => mBd (mGetI 10 1 p1) (fun r25 => mBd (mCk 11 p0 (g_X13_turnsAtom p0 p1 p2 (r25 - (1 : Int32)))) (fun r26 => mRt r26))))))) else mBd (mGetI 11 18 p0) (fun r27 => mBd (mPutI 11 18 p0 (r27 - (1 : Int32))) (fun _ => mBd (mCk 11 p0 (f_X13_deeper p0)) (fun _ => mBd (mGetI 11 11 p0) (fun r28 => (if ¬ r28 = (5 : Int32) then mBd (mCk 11 p0 (g_X13_readSum p0 p1 p2)) (fun r29 => f_X13_readAtom_j56 g_X13_readSum g_X13_readProduct g_X13_readAtom g_X13_turnsAtom p0 r29) else f_X13_readAtom_j56 g_X13_readSum g_X13_readProduct g_X13_readAtom g_X13_turnsAtom p0 r1))))))))))
set_option maxRecDepth 100000 in
theorem s_X13_readAtom {cx : CX} {d : Nat} {g_X13_readSum : (Option Nat) → (Option Nat) → Int32 → Mo Int32} {g_X13_readProduct : (Option Nat) → (Option Nat) → Int32 → Mo Int32} {g_X13_readAtom : (Option Nat) → (Option Nat) → Int32 → Mo Int32} {g_X13_turnsAtom : (Option Nat) → (Option Nat) → Int32 → Int32 → Mo Int32} (hg_X13_readSum : ∀ (a0 : (Option Nat)) (a1 : (Option Nat)) (a2 : Int32), Cn cx.1 (m_X13_readSum d) eI [vA a0, vA a1, vI a2] (mCk 11 a0 (g_X13_readSum a0 a1 a2))) (hg_X13_readProduct : ∀ (a0 : (Option Nat)) (a1 : (Option Nat)) (a2 : Int32), Cn cx.1 (m_X13_readProduct d) eI [vA a0, vA a1, vI a2] (mCk 11 a0 (g_X13_readProduct a0 a1 a2))) (hg_X13_readAtom : ∀ (a0 : (Option Nat)) (a1 : (Option Nat)) (a2 : Int32), Cn cx.1 (m_X13_readAtom d) eI [vA a0, vA a1, vI a2] (mCk 11 a0 (g_X13_readAtom a0 a1 a2))) (hg_X13_turnsAtom : ∀ (a0 : (Option Nat)) (a1 : (Option Nat)) (a2 : Int32) (a3 : Int32), Cn cx.1 (m_X13_turnsAtom d) eI [vA a0, vA a1, vI a2, vI a3] (mCk 11 a0 (g_X13_turnsAtom a0 a1 a2 a3))) (p0 : (Option Nat)) (p1 : (Option Nat)) (p2 : Int32) : Sn cx (m_X13_readAtom (d + 1)) eI 0 [(0, vA p0), (1, vA p1), (2, vI p2)] [] (fb_X13_readAtom g_X13_readSum g_X13_readProduct g_X13_readAtom g_X13_turnsAtom p0 p1 p2) := by
  refine sn_aload_n (y := (m_X13_readAtom (d + 1))) (pc := 0) dX13_readAtom_0 rfl ?_
  refine sn_getI (y := (m_X13_readAtom (d + 1))) (pc := 1) ca_11 rfl fk_X13_304 (fun _ _ _ => rfl) dX13_readAtom_1 (fun r1 => ?_)
  refine sn_istore_n (y := (m_X13_readAtom (d + 1))) (pc := 4) dX13_readAtom_4 rfl ?_
  refine sn_aload_n (y := (m_X13_readAtom (d + 1))) (pc := 5) dX13_readAtom_5 rfl ?_
  refine sn_dup (y := (m_X13_readAtom (d + 1))) (pc := 6) rfl dX13_readAtom_6 ?_
  refine sn_getI (y := (m_X13_readAtom (d + 1))) (pc := 7) ca_11 rfl fk_X13_304 (fun _ _ _ => rfl) dX13_readAtom_7 (fun r2 => ?_)
  refine sn_iconst (y := (m_X13_readAtom (d + 1))) (pc := 10) dX13_readAtom_10 kc_iconst_1 ?_
  refine sn_iadd (y := (m_X13_readAtom (d + 1))) (pc := 11) dX13_readAtom_11 ?_
  refine sn_putI (y := (m_X13_readAtom (d + 1))) (pc := 12) ca_11 rfl fk_X13_304 (Or.inl rfl) rfl dX13_readAtom_12 ?_
  refine sn_aload_n (y := (m_X13_readAtom (d + 1))) (pc := 15) dX13_readAtom_15 rfl ?_
  refine sn_bipush (y := (m_X13_readAtom (d + 1))) (pc := 16) dX13_readAtom_16 kc_bipush_40 ?_
  refine sn_invV (y := (m_X13_readAtom (d + 1))) (pc := 18) ca_11 (av := [vI (40 : Int32)]) (o := p0) (st := []) dX13_readAtom_18 lk_X13_161 im_X13_isSign se_X13_isSign rfl rfl rfl rfl ⟨by show 2 + 1 ≤ 10 + (d + 1); omega, by show 8 + (2 + 11) + 30 ≤ 203 + 60 * (d + 1); omega⟩ (c_X13_isSign cx.1 p0 (40 : Int32)) (fun r3 => ?_)
  refine sn_if_eq (y := (m_X13_readAtom (d + 1))) (pc := 21) (tgt := 77) dX13_readAtom_21 (by decide) (fun _ => ?_) (fun _ => ?_)
  · refine sn_aload_n (y := (m_X13_readAtom (d + 1))) (pc := 77) dX13_readAtom_77 rfl ?_
    refine sn_ldcS (y := (m_X13_readAtom (d + 1))) (pc := 78) (i := 14) rfl (by decide) dX13_readAtom_78 ?_
    refine sn_invV (y := (m_X13_readAtom (d + 1))) (pc := 80) ca_11 (av := [vA ((some 17))]) (o := p0) (st := []) dX13_readAtom_80 lk_X13_154 im_X13_isWord se_X13_isWord rfl rfl rfl rfl ⟨by show 7 + 1 ≤ 10 + (d + 1); omega, by show 8 + (2 + 11) + 138 ≤ 203 + 60 * (d + 1); omega⟩ (c_X13_isWord cx.1 p0 ((some 17))) (fun r4 => ?_)
    refine sn_if_eq (y := (m_X13_readAtom (d + 1))) (pc := 83) (tgt := 113) dX13_readAtom_83 (by decide) (fun _ => ?_) (fun _ => ?_)
    · refine sn_aload_n (y := (m_X13_readAtom (d + 1))) (pc := 113) dX13_readAtom_113 rfl ?_
      refine sn_ldcS (y := (m_X13_readAtom (d + 1))) (pc := 114) (i := 15) rfl (by decide) dX13_readAtom_114 ?_
      refine sn_invV (y := (m_X13_readAtom (d + 1))) (pc := 116) ca_11 (av := [vA ((some 18))]) (o := p0) (st := []) dX13_readAtom_116 lk_X13_154 im_X13_isWord se_X13_isWord rfl rfl rfl rfl ⟨by show 7 + 1 ≤ 10 + (d + 1); omega, by show 8 + (2 + 11) + 138 ≤ 203 + 60 * (d + 1); omega⟩ (c_X13_isWord cx.1 p0 ((some 18))) (fun r5 => ?_)
      refine sn_if_eq (y := (m_X13_readAtom (d + 1))) (pc := 119) (tgt := 176) dX13_readAtom_119 (by decide) (fun _ => ?_) (fun _ => ?_)
      · refine sn_aload_n (y := (m_X13_readAtom (d + 1))) (pc := 176) dX13_readAtom_176 rfl ?_
        refine sn_ldcS (y := (m_X13_readAtom (d + 1))) (pc := 177) (i := 12) rfl (by decide) dX13_readAtom_177 ?_
        refine sn_invV (y := (m_X13_readAtom (d + 1))) (pc := 179) ca_11 (av := [vA ((some 15))]) (o := p0) (st := []) dX13_readAtom_179 lk_X13_350 im_X13_eatsWord se_X13_eatsWord rfl rfl rfl rfl ⟨by show 8 + 1 ≤ 10 + (d + 1); omega, by show 8 + (3 + 11) + 159 ≤ 203 + 60 * (d + 1); omega⟩ (c_X13_eatsWord cx.1 p0 ((some 15))) (fun r6 => ?_)
        refine sn_if_eq (y := (m_X13_readAtom (d + 1))) (pc := 182) (tgt := 220) dX13_readAtom_182 (by decide) (fun _ => ?_) (fun _ => ?_)
        · refine sn_aload_n (y := (m_X13_readAtom (d + 1))) (pc := 220) dX13_readAtom_220 rfl ?_
          refine sn_ldcS (y := (m_X13_readAtom (d + 1))) (pc := 221) (i := 13) rfl (by decide) dX13_readAtom_221 ?_
          refine sn_invV (y := (m_X13_readAtom (d + 1))) (pc := 223) ca_11 (av := [vA ((some 16))]) (o := p0) (st := []) dX13_readAtom_223 lk_X13_350 im_X13_eatsWord se_X13_eatsWord rfl rfl rfl rfl ⟨by show 8 + 1 ≤ 10 + (d + 1); omega, by show 8 + (3 + 11) + 159 ≤ 203 + 60 * (d + 1); omega⟩ (c_X13_eatsWord cx.1 p0 ((some 16))) (fun r7 => ?_)
          refine sn_if_eq (y := (m_X13_readAtom (d + 1))) (pc := 226) (tgt := 282) dX13_readAtom_226 (by decide) (fun _ => ?_) (fun _ => ?_)
          · refine sn_aload_n (y := (m_X13_readAtom (d + 1))) (pc := 282) dX13_readAtom_282 rfl ?_
            refine sn_getI (y := (m_X13_readAtom (d + 1))) (pc := 283) ca_11 rfl fk_X13_111 (fun _ _ _ => rfl) dX13_readAtom_283 (fun r8 => ?_)
            refine sn_iconst (y := (m_X13_readAtom (d + 1))) (pc := 286) dX13_readAtom_286 kc_iconst_3 ?_
            refine sn_icmp_ne (y := (m_X13_readAtom (d + 1))) (pc := 287) (tgt := 307) dX13_readAtom_287 (by decide) (fun _ => ?_) (fun _ => ?_)
            · refine sn_aload_n (y := (m_X13_readAtom (d + 1))) (pc := 307) dX13_readAtom_307 rfl ?_
              refine sn_iload_n (y := (m_X13_readAtom (d + 1))) (pc := 308) dX13_readAtom_308 rfl ?_
              refine sn_iload_n (y := (m_X13_readAtom (d + 1))) (pc := 309) dX13_readAtom_309 rfl ?_
              refine sn_invV (y := (m_X13_readAtom (d + 1))) (pc := 310) ca_11 (av := [vI p2, vI r1]) (o := p0) (st := []) dX13_readAtom_310 lk_X13_356 im_X13_readNamed se_X13_readNamed rfl rfl rfl rfl ⟨by show 9 + 1 ≤ 10 + (d + 1); omega, by show 8 + (5 + 11) + 179 ≤ 203 + 60 * (d + 1); omega⟩ (c_X13_readNamed cx.1 p0 p2 r1) (fun _ => ?_)
              refine sn_iload_n (y := (m_X13_readAtom (d + 1))) (pc := 313) dX13_readAtom_313 rfl ?_
              exact sn_ireturn rfl dX13_readAtom_314
            refine sn_aload_n (y := (m_X13_readAtom (d + 1))) (pc := 290) dX13_readAtom_290 rfl ?_
            refine sn_iload_n (y := (m_X13_readAtom (d + 1))) (pc := 291) dX13_readAtom_291 rfl ?_
            refine sn_aload_n (y := (m_X13_readAtom (d + 1))) (pc := 292) dX13_readAtom_292 rfl ?_
            refine sn_iconst (y := (m_X13_readAtom (d + 1))) (pc := 293) dX13_readAtom_293 kc_iconst_0 ?_
            refine sn_sipush (y := (m_X13_readAtom (d + 1))) (pc := 294) dX13_readAtom_294 kc_sipush_999 ?_
            refine sn_invV (y := (m_X13_readAtom (d + 1))) (pc := 297) ca_11 (av := [vI (0 : Int32), vI (999 : Int32)]) (o := p0) (st := [vI r1, vA p0]) dX13_readAtom_297 lk_X13_273 im_X13_readWhole se_X13_readWhole rfl rfl rfl rfl ⟨by show 5 + 1 ≤ 10 + (d + 1); omega, by show 8 + (4 + 11) + 95 ≤ 203 + 60 * (d + 1); omega⟩ (c_X13_readWhole cx.1 p0 (0 : Int32) (999 : Int32)) (fun r9 => ?_)
            refine sn_i2l (y := (m_X13_readAtom (d + 1))) (pc := 300) dX13_readAtom_300 ?_
            refine sn_invV (y := (m_X13_readAtom (d + 1))) (pc := 301) ca_11 (av := [vI r1, vJ (r9.toInt64)]) (o := p0) (st := []) dX13_readAtom_301 lk_X13_297 im_X13_wholeRow se_X13_wholeRow rfl rfl rfl rfl ⟨by show 2 + 1 ≤ 10 + (d + 1); omega, by show 8 + (5 + 11) + 30 ≤ 203 + 60 * (d + 1); omega⟩ (c_X13_wholeRow cx.1 p0 r1 (r9.toInt64)) (fun _ => ?_)
            refine sn_goto (y := (m_X13_readAtom (d + 1))) (pc := 304) (tgt := 313) dX13_readAtom_304 (by decide) ?_
            refine sn_iload_n (y := (m_X13_readAtom (d + 1))) (pc := 313) dX13_readAtom_313 rfl ?_
            exact sn_ireturn rfl dX13_readAtom_314
          refine sn_aload_n (y := (m_X13_readAtom (d + 1))) (pc := 229) dX13_readAtom_229 rfl ?_
          refine sn_iconst (y := (m_X13_readAtom (d + 1))) (pc := 230) dX13_readAtom_230 kc_iconst_0 ?_
          refine sn_aload_n (y := (m_X13_readAtom (d + 1))) (pc := 231) dX13_readAtom_231 rfl ?_
          refine sn_getI (y := (m_X13_readAtom (d + 1))) (pc := 232) ca_10 rfl fk_X13_59 (fun _ _ _ => rfl) dX13_readAtom_232 (fun r10 => ?_)
          refine sn_iconst (y := (m_X13_readAtom (d + 1))) (pc := 235) dX13_readAtom_235 kc_iconst_1 ?_
          refine sn_isub (y := (m_X13_readAtom (d + 1))) (pc := 236) dX13_readAtom_236 ?_
          refine sn_invV (y := (m_X13_readAtom (d + 1))) (pc := 237) ca_11 (av := [vI (0 : Int32), vI (r10 - (1 : Int32))]) (o := p0) (st := []) dX13_readAtom_237 lk_X13_273 im_X13_readWhole se_X13_readWhole rfl rfl rfl rfl ⟨by show 5 + 1 ≤ 10 + (d + 1); omega, by show 8 + (4 + 11) + 95 ≤ 203 + 60 * (d + 1); omega⟩ (c_X13_readWhole cx.1 p0 (0 : Int32) (r10 - (1 : Int32))) (fun r11 => ?_)
          refine sn_istore (y := (m_X13_readAtom (d + 1))) (pc := 240) dX13_readAtom_240 rfl ?_
          refine sn_aload_n (y := (m_X13_readAtom (d + 1))) (pc := 242) dX13_readAtom_242 rfl ?_
          refine sn_bipush (y := (m_X13_readAtom (d + 1))) (pc := 243) dX13_readAtom_243 kc_bipush_44 ?_
          refine sn_invV (y := (m_X13_readAtom (d + 1))) (pc := 245) ca_11 (av := [vI (44 : Int32)]) (o := p0) (st := []) dX13_readAtom_245 lk_X13_341 im_X13_needsSign se_X13_needsSign rfl rfl rfl rfl ⟨by show 4 + 1 ≤ 10 + (d + 1); omega, by show 8 + (2 + 11) + 73 ≤ 203 + 60 * (d + 1); omega⟩ (c_X13_needsSign cx.1 p0 (44 : Int32)) (fun _ => ?_)
          refine sn_aload_n (y := (m_X13_readAtom (d + 1))) (pc := 248) dX13_readAtom_248 rfl ?_
          refine sn_iconst (y := (m_X13_readAtom (d + 1))) (pc := 249) dX13_readAtom_249 kc_iconst_0 ?_
          refine sn_aload_n (y := (m_X13_readAtom (d + 1))) (pc := 250) dX13_readAtom_250 rfl ?_
          refine sn_getI (y := (m_X13_readAtom (d + 1))) (pc := 251) ca_10 rfl fk_X13_59 (fun _ _ _ => rfl) dX13_readAtom_251 (fun r12 => ?_)
          refine sn_iconst (y := (m_X13_readAtom (d + 1))) (pc := 254) dX13_readAtom_254 kc_iconst_1 ?_
          refine sn_isub (y := (m_X13_readAtom (d + 1))) (pc := 255) dX13_readAtom_255 ?_
          refine sn_invV (y := (m_X13_readAtom (d + 1))) (pc := 256) ca_11 (av := [vI (0 : Int32), vI (r12 - (1 : Int32))]) (o := p0) (st := []) dX13_readAtom_256 lk_X13_273 im_X13_readWhole se_X13_readWhole rfl rfl rfl rfl ⟨by show 5 + 1 ≤ 10 + (d + 1); omega, by show 8 + (4 + 11) + 95 ≤ 203 + 60 * (d + 1); omega⟩ (c_X13_readWhole cx.1 p0 (0 : Int32) (r12 - (1 : Int32))) (fun r13 => ?_)
          refine sn_istore (y := (m_X13_readAtom (d + 1))) (pc := 259) dX13_readAtom_259 rfl ?_
          refine sn_aload_n (y := (m_X13_readAtom (d + 1))) (pc := 261) dX13_readAtom_261 rfl ?_
          refine sn_getI (y := (m_X13_readAtom (d + 1))) (pc := 262) ca_11 rfl fk_X13_111 (fun _ _ _ => rfl) dX13_readAtom_262 (fun r14 => ?_)
          refine sn_iconst (y := (m_X13_readAtom (d + 1))) (pc := 265) dX13_readAtom_265 kc_iconst_5 ?_
          refine sn_icmp_eq (y := (m_X13_readAtom (d + 1))) (pc := 266) (tgt := 279) dX13_readAtom_266 (by decide) (fun _ => ?_) (fun _ => ?_)
          · refine sn_goto (y := (m_X13_readAtom (d + 1))) (pc := 279) (tgt := 313) dX13_readAtom_279 (by decide) ?_
            refine sn_iload_n (y := (m_X13_readAtom (d + 1))) (pc := 313) dX13_readAtom_313 rfl ?_
            exact sn_ireturn rfl dX13_readAtom_314
          refine sn_aload_n (y := (m_X13_readAtom (d + 1))) (pc := 269) dX13_readAtom_269 rfl ?_
          refine sn_aload_n (y := (m_X13_readAtom (d + 1))) (pc := 270) dX13_readAtom_270 rfl ?_
          refine sn_iload (y := (m_X13_readAtom (d + 1))) (pc := 271) dX13_readAtom_271 rfl ?_
          refine sn_iload (y := (m_X13_readAtom (d + 1))) (pc := 273) dX13_readAtom_273 rfl ?_
          refine sn_iload_n (y := (m_X13_readAtom (d + 1))) (pc := 275) dX13_readAtom_275 rfl ?_
          refine sn_invV (y := (m_X13_readAtom (d + 1))) (pc := 276) ca_11 (av := [vA p1, vI r11, vI r13, vI r1]) (o := p0) (st := []) dX13_readAtom_276 lk_X13_353 im_X13_jacobiRow se_X13_jacobiRow rfl rfl rfl rfl ⟨by show 3 + 1 ≤ 10 + (d + 1); omega, by show 8 + (8 + 11) + 58 ≤ 203 + 60 * (d + 1); omega⟩ (c_X13_jacobiRow cx.1 p0 p1 r11 r13 r1) (fun _ => ?_)
          refine sn_goto (y := (m_X13_readAtom (d + 1))) (pc := 279) (tgt := 313) dX13_readAtom_279 (by decide) ?_
          refine sn_iload_n (y := (m_X13_readAtom (d + 1))) (pc := 313) dX13_readAtom_313 rfl ?_
          exact sn_ireturn rfl dX13_readAtom_314
        refine sn_aload_n (y := (m_X13_readAtom (d + 1))) (pc := 185) dX13_readAtom_185 rfl ?_
        refine sn_iconst (y := (m_X13_readAtom (d + 1))) (pc := 186) dX13_readAtom_186 kc_iconst_0 ?_
        refine sn_bipush (y := (m_X13_readAtom (d + 1))) (pc := 187) dX13_readAtom_187 kc_bipush_99 ?_
        refine sn_invV (y := (m_X13_readAtom (d + 1))) (pc := 189) ca_11 (av := [vI (0 : Int32), vI (99 : Int32)]) (o := p0) (st := []) dX13_readAtom_189 lk_X13_273 im_X13_readWhole se_X13_readWhole rfl rfl rfl rfl ⟨by show 5 + 1 ≤ 10 + (d + 1); omega, by show 8 + (4 + 11) + 95 ≤ 203 + 60 * (d + 1); omega⟩ (c_X13_readWhole cx.1 p0 (0 : Int32) (99 : Int32)) (fun r15 => ?_)
        refine sn_istore (y := (m_X13_readAtom (d + 1))) (pc := 192) dX13_readAtom_192 rfl ?_
        refine sn_aload_n (y := (m_X13_readAtom (d + 1))) (pc := 194) dX13_readAtom_194 rfl ?_
        refine sn_invV (y := (m_X13_readAtom (d + 1))) (pc := 195) ca_11 (av := []) (o := p0) (st := []) dX13_readAtom_195 lk_X13_70 im_X13_clearWide se_X13_clearWide rfl rfl rfl rfl ⟨by show 2 + 1 ≤ 10 + (d + 1); omega, by show 8 + (2 + 11) + 30 ≤ 203 + 60 * (d + 1); omega⟩ (c_X13_clearWide cx.1 p0) (fun _ => ?_)
        refine sn_aload_n (y := (m_X13_readAtom (d + 1))) (pc := 198) dX13_readAtom_198 rfl ?_
        refine sn_getA (y := (m_X13_readAtom (d + 1))) (pc := 199) ca_11 rfl fk_X13_17 (fun _ _ _ => rfl) dX13_readAtom_199 (fun r16 => ?_)
        refine sn_iload (y := (m_X13_readAtom (d + 1))) (pc := 202) dX13_readAtom_202 rfl ?_
        refine sn_aload_n (y := (m_X13_readAtom (d + 1))) (pc := 204) dX13_readAtom_204 rfl ?_
        refine sn_getI (y := (m_X13_readAtom (d + 1))) (pc := 205) ca_10 rfl fk_X13_59 (fun _ _ _ => rfl) dX13_readAtom_205 (fun r17 => ?_)
        refine sn_irem (y := (m_X13_readAtom (d + 1))) (pc := 208) dX13_readAtom_208 ?_
        refine sn_lconst (y := (m_X13_readAtom (d + 1))) (pc := 209) dX13_readAtom_209 kc_lconst_1 ?_
        refine sn_lastore (y := (m_X13_readAtom (d + 1))) (pc := 210) dX13_readAtom_210 ?_
        refine sn_aload_n (y := (m_X13_readAtom (d + 1))) (pc := 211) dX13_readAtom_211 rfl ?_
        refine sn_aload_n (y := (m_X13_readAtom (d + 1))) (pc := 212) dX13_readAtom_212 rfl ?_
        refine sn_iload_n (y := (m_X13_readAtom (d + 1))) (pc := 213) dX13_readAtom_213 rfl ?_
        refine sn_invV (y := (m_X13_readAtom (d + 1))) (pc := 214) ca_11 (av := [vA p1, vI r1]) (o := p0) (st := []) dX13_readAtom_214 lk_X13_73 im_X13_settles se_X13_settles rfl rfl rfl rfl ⟨by show 2 + 1 ≤ 10 + (d + 1); omega, by show 8 + (9 + 11) + 30 ≤ 203 + 60 * (d + 1); omega⟩ (c_X13_settles cx.1 p0 p1 r1) (fun _ => ?_)
        refine sn_goto (y := (m_X13_readAtom (d + 1))) (pc := 217) (tgt := 313) dX13_readAtom_217 (by decide) ?_
        refine sn_iload_n (y := (m_X13_readAtom (d + 1))) (pc := 313) dX13_readAtom_313 rfl ?_
        exact sn_ireturn rfl dX13_readAtom_314
      refine sn_aload_n (y := (m_X13_readAtom (d + 1))) (pc := 122) dX13_readAtom_122 rfl ?_
      refine sn_dup (y := (m_X13_readAtom (d + 1))) (pc := 123) rfl dX13_readAtom_123 ?_
      refine sn_getI (y := (m_X13_readAtom (d + 1))) (pc := 124) ca_11 rfl fk_X13_304 (fun _ _ _ => rfl) dX13_readAtom_124 (fun r18 => ?_)
      refine sn_iconst (y := (m_X13_readAtom (d + 1))) (pc := 127) dX13_readAtom_127 kc_iconst_1 ?_
      refine sn_isub (y := (m_X13_readAtom (d + 1))) (pc := 128) dX13_readAtom_128 ?_
      refine sn_putI (y := (m_X13_readAtom (d + 1))) (pc := 129) ca_11 rfl fk_X13_304 (Or.inl rfl) rfl dX13_readAtom_129 ?_
      refine sn_aload_n (y := (m_X13_readAtom (d + 1))) (pc := 132) dX13_readAtom_132 rfl ?_
      refine sn_invV (y := (m_X13_readAtom (d + 1))) (pc := 133) ca_11 (av := []) (o := p0) (st := []) dX13_readAtom_133 lk_X13_338 im_X13_deeper se_X13_deeper rfl rfl rfl rfl ⟨by show 4 + 1 ≤ 10 + (d + 1); omega, by show 8 + (1 + 11) + 73 ≤ 203 + 60 * (d + 1); omega⟩ (c_X13_deeper cx.1 p0) (fun _ => ?_)
      refine sn_aload_n (y := (m_X13_readAtom (d + 1))) (pc := 136) dX13_readAtom_136 rfl ?_
      refine sn_iconst (y := (m_X13_readAtom (d + 1))) (pc := 137) dX13_readAtom_137 kc_iconst_1 ?_
      refine sn_aload_n (y := (m_X13_readAtom (d + 1))) (pc := 138) dX13_readAtom_138 rfl ?_
      refine sn_getI (y := (m_X13_readAtom (d + 1))) (pc := 139) ca_10 rfl fk_X13_59 (fun _ _ _ => rfl) dX13_readAtom_139 (fun r19 => ?_)
      refine sn_iconst (y := (m_X13_readAtom (d + 1))) (pc := 142) dX13_readAtom_142 kc_iconst_1 ?_
      refine sn_isub (y := (m_X13_readAtom (d + 1))) (pc := 143) dX13_readAtom_143 ?_
      refine sn_invV (y := (m_X13_readAtom (d + 1))) (pc := 144) ca_11 (av := [vI (1 : Int32), vI (r19 - (1 : Int32))]) (o := p0) (st := []) dX13_readAtom_144 lk_X13_172 im_X13_bounded se_X13_bounded rfl rfl rfl rfl ⟨by show 4 + 1 ≤ 10 + (d + 1); omega, by show 8 + (3 + 11) + 73 ≤ 203 + 60 * (d + 1); omega⟩ (c_X13_bounded cx.1 p0 (1 : Int32) (r19 - (1 : Int32))) (fun r20 => ?_)
      refine sn_istore (y := (m_X13_readAtom (d + 1))) (pc := 147) dX13_readAtom_147 rfl ?_
      refine sn_aload_n (y := (m_X13_readAtom (d + 1))) (pc := 149) dX13_readAtom_149 rfl ?_
      refine sn_iload (y := (m_X13_readAtom (d + 1))) (pc := 150) dX13_readAtom_150 rfl ?_
      refine sn_invV (y := (m_X13_readAtom (d + 1))) (pc := 152) ca_10 (av := [vI r20]) (o := p1) (st := []) dX13_readAtom_152 lk_X13_347 im_X12_isUnit se_X12_isUnit rfl rfl rfl rfl ⟨by show 3 + 1 ≤ 10 + (d + 1); omega, by show 8 + (2 + 11) + 54 ≤ 203 + 60 * (d + 1); omega⟩ (c_X12_isUnit cx.1 p1 r20) (fun r21 => ?_)
      refine sn_if_ne (y := (m_X13_readAtom (d + 1))) (pc := 155) (tgt := 163) dX13_readAtom_155 (by decide) (fun _ => ?_) (fun _ => ?_)
      · refine sn_aload_n (y := (m_X13_readAtom (d + 1))) (pc := 163) dX13_readAtom_163 rfl ?_
        refine sn_invV (y := (m_X13_readAtom (d + 1))) (pc := 164) ca_11 (av := []) (o := p0) (st := []) dX13_readAtom_164 lk_X13_158 im_X13_goesOn se_X13_goesOn rfl rfl rfl rfl ⟨by show 3 + 1 ≤ 10 + (d + 1); omega, by show 8 + (3 + 11) + 51 ≤ 203 + 60 * (d + 1); omega⟩ (c_X13_goesOn cx.1 p0) (fun _ => ?_)
        refine sn_aload_n (y := (m_X13_readAtom (d + 1))) (pc := 167) dX13_readAtom_167 rfl ?_
        refine sn_aload_n (y := (m_X13_readAtom (d + 1))) (pc := 168) dX13_readAtom_168 rfl ?_
        refine sn_iload_n (y := (m_X13_readAtom (d + 1))) (pc := 169) dX13_readAtom_169 rfl ?_
        refine sn_iload (y := (m_X13_readAtom (d + 1))) (pc := 170) dX13_readAtom_170 rfl ?_
        refine sn_invV (y := (m_X13_readAtom (d + 1))) (pc := 172) ca_11 (av := [vA p1, vI p2, vI r20]) (o := p0) (st := []) dX13_readAtom_172 (lk_X13_344 d) im_X13_turnsAtom se_X13_turnsAtom rfl rfl rfl rfl ⟨by show 10 + d + 1 ≤ 10 + (d + 1); omega, by show 8 + (5 + 11) + (203 + 60 * d) ≤ 203 + 60 * (d + 1); omega⟩ (hg_X13_turnsAtom p0 p1 p2 r20) (fun r22 => ?_)
        exact sn_ireturn rfl dX13_readAtom_175
      refine sn_aload_n (y := (m_X13_readAtom (d + 1))) (pc := 158) dX13_readAtom_158 rfl ?_
      refine sn_iconst (y := (m_X13_readAtom (d + 1))) (pc := 159) dX13_readAtom_159 kc_iconst_4 ?_
      refine sn_invV (y := (m_X13_readAtom (d + 1))) (pc := 160) ca_11 (av := [vI (4 : Int32)]) (o := p0) (st := []) dX13_readAtom_160 lk_X13_164 im_X13_wrong se_X13_wrong rfl rfl rfl rfl ⟨by show 3 + 1 ≤ 10 + (d + 1); omega, by show 8 + (2 + 11) + 52 ≤ 203 + 60 * (d + 1); omega⟩ (c_X13_wrong cx.1 p0 (4 : Int32)) (fun _ => ?_)
      refine sn_aload_n (y := (m_X13_readAtom (d + 1))) (pc := 163) dX13_readAtom_163 rfl ?_
      refine sn_invV (y := (m_X13_readAtom (d + 1))) (pc := 164) ca_11 (av := []) (o := p0) (st := []) dX13_readAtom_164 lk_X13_158 im_X13_goesOn se_X13_goesOn rfl rfl rfl rfl ⟨by show 3 + 1 ≤ 10 + (d + 1); omega, by show 8 + (3 + 11) + 51 ≤ 203 + 60 * (d + 1); omega⟩ (c_X13_goesOn cx.1 p0) (fun _ => ?_)
      refine sn_aload_n (y := (m_X13_readAtom (d + 1))) (pc := 167) dX13_readAtom_167 rfl ?_
      refine sn_aload_n (y := (m_X13_readAtom (d + 1))) (pc := 168) dX13_readAtom_168 rfl ?_
      refine sn_iload_n (y := (m_X13_readAtom (d + 1))) (pc := 169) dX13_readAtom_169 rfl ?_
      refine sn_iload (y := (m_X13_readAtom (d + 1))) (pc := 170) dX13_readAtom_170 rfl ?_
      refine sn_invV (y := (m_X13_readAtom (d + 1))) (pc := 172) ca_11 (av := [vA p1, vI p2, vI r20]) (o := p0) (st := []) dX13_readAtom_172 (lk_X13_344 d) im_X13_turnsAtom se_X13_turnsAtom rfl rfl rfl rfl ⟨by show 10 + d + 1 ≤ 10 + (d + 1); omega, by show 8 + (5 + 11) + (203 + 60 * d) ≤ 203 + 60 * (d + 1); omega⟩ (hg_X13_turnsAtom p0 p1 p2 r20) (fun r23 => ?_)
      exact sn_ireturn rfl dX13_readAtom_175
    refine sn_aload_n (y := (m_X13_readAtom (d + 1))) (pc := 86) dX13_readAtom_86 rfl ?_
    refine sn_dup (y := (m_X13_readAtom (d + 1))) (pc := 87) rfl dX13_readAtom_87 ?_
    refine sn_getI (y := (m_X13_readAtom (d + 1))) (pc := 88) ca_11 rfl fk_X13_304 (fun _ _ _ => rfl) dX13_readAtom_88 (fun r24 => ?_)
    refine sn_iconst (y := (m_X13_readAtom (d + 1))) (pc := 91) dX13_readAtom_91 kc_iconst_1 ?_
    refine sn_isub (y := (m_X13_readAtom (d + 1))) (pc := 92) dX13_readAtom_92 ?_
    refine sn_putI (y := (m_X13_readAtom (d + 1))) (pc := 93) ca_11 rfl fk_X13_304 (Or.inl rfl) rfl dX13_readAtom_93 ?_
    refine sn_aload_n (y := (m_X13_readAtom (d + 1))) (pc := 96) dX13_readAtom_96 rfl ?_
    refine sn_invV (y := (m_X13_readAtom (d + 1))) (pc := 97) ca_11 (av := []) (o := p0) (st := []) dX13_readAtom_97 lk_X13_338 im_X13_deeper se_X13_deeper rfl rfl rfl rfl ⟨by show 4 + 1 ≤ 10 + (d + 1); omega, by show 8 + (1 + 11) + 73 ≤ 203 + 60 * (d + 1); omega⟩ (c_X13_deeper cx.1 p0) (fun _ => ?_)
    refine sn_aload_n (y := (m_X13_readAtom (d + 1))) (pc := 100) dX13_readAtom_100 rfl ?_
    refine sn_aload_n (y := (m_X13_readAtom (d + 1))) (pc := 101) dX13_readAtom_101 rfl ?_
    refine sn_iload_n (y := (m_X13_readAtom (d + 1))) (pc := 102) dX13_readAtom_102 rfl ?_
    refine sn_aload_n (y := (m_X13_readAtom (d + 1))) (pc := 103) dX13_readAtom_103 rfl ?_
    refine sn_getI (y := (m_X13_readAtom (d + 1))) (pc := 104) ca_10 rfl fk_X13_59 (fun _ _ _ => rfl) dX13_readAtom_104 (fun r25 => ?_)
    refine sn_iconst (y := (m_X13_readAtom (d + 1))) (pc := 107) dX13_readAtom_107 kc_iconst_1 ?_
    refine sn_isub (y := (m_X13_readAtom (d + 1))) (pc := 108) dX13_readAtom_108 ?_
    refine sn_invV (y := (m_X13_readAtom (d + 1))) (pc := 109) ca_11 (av := [vA p1, vI p2, vI (r25 - (1 : Int32))]) (o := p0) (st := []) dX13_readAtom_109 (lk_X13_344 d) im_X13_turnsAtom se_X13_turnsAtom rfl rfl rfl rfl ⟨by show 10 + d + 1 ≤ 10 + (d + 1); omega, by show 8 + (5 + 11) + (203 + 60 * d) ≤ 203 + 60 * (d + 1); omega⟩ (hg_X13_turnsAtom p0 p1 p2 (r25 - (1 : Int32))) (fun r26 => ?_)
    exact sn_ireturn rfl dX13_readAtom_112
  refine sn_aload_n (y := (m_X13_readAtom (d + 1))) (pc := 24) dX13_readAtom_24 rfl ?_
  refine sn_dup (y := (m_X13_readAtom (d + 1))) (pc := 25) rfl dX13_readAtom_25 ?_
  refine sn_getI (y := (m_X13_readAtom (d + 1))) (pc := 26) ca_11 rfl fk_X13_304 (fun _ _ _ => rfl) dX13_readAtom_26 (fun r27 => ?_)
  refine sn_iconst (y := (m_X13_readAtom (d + 1))) (pc := 29) dX13_readAtom_29 kc_iconst_1 ?_
  refine sn_isub (y := (m_X13_readAtom (d + 1))) (pc := 30) dX13_readAtom_30 ?_
  refine sn_putI (y := (m_X13_readAtom (d + 1))) (pc := 31) ca_11 rfl fk_X13_304 (Or.inl rfl) rfl dX13_readAtom_31 ?_
  refine sn_aload_n (y := (m_X13_readAtom (d + 1))) (pc := 34) dX13_readAtom_34 rfl ?_
  refine sn_invV (y := (m_X13_readAtom (d + 1))) (pc := 35) ca_11 (av := []) (o := p0) (st := []) dX13_readAtom_35 lk_X13_338 im_X13_deeper se_X13_deeper rfl rfl rfl rfl ⟨by show 4 + 1 ≤ 10 + (d + 1); omega, by show 8 + (1 + 11) + 73 ≤ 203 + 60 * (d + 1); omega⟩ (c_X13_deeper cx.1 p0) (fun _ => ?_)
  refine sn_aload_n (y := (m_X13_readAtom (d + 1))) (pc := 38) dX13_readAtom_38 rfl ?_
  refine sn_getI (y := (m_X13_readAtom (d + 1))) (pc := 39) ca_11 rfl fk_X13_111 (fun _ _ _ => rfl) dX13_readAtom_39 (fun r28 => ?_)
  refine sn_iconst (y := (m_X13_readAtom (d + 1))) (pc := 42) dX13_readAtom_42 kc_iconst_5 ?_
  refine sn_icmp_ne (y := (m_X13_readAtom (d + 1))) (pc := 43) (tgt := 50) dX13_readAtom_43 (by decide) (fun _ => ?_) (fun _ => ?_)
  · refine sn_aload_n (y := (m_X13_readAtom (d + 1))) (pc := 50) dX13_readAtom_50 rfl ?_
    refine sn_aload_n (y := (m_X13_readAtom (d + 1))) (pc := 51) dX13_readAtom_51 rfl ?_
    refine sn_iload_n (y := (m_X13_readAtom (d + 1))) (pc := 52) dX13_readAtom_52 rfl ?_
    refine sn_invV (y := (m_X13_readAtom (d + 1))) (pc := 53) ca_11 (av := [vA p1, vI p2]) (o := p0) (st := []) dX13_readAtom_53 (lk_X13_310 d) im_X13_readSum se_X13_readSum rfl rfl rfl rfl ⟨by show 10 + d + 1 ≤ 10 + (d + 1); omega, by show 8 + (7 + 11) + (203 + 60 * d) ≤ 203 + 60 * (d + 1); omega⟩ (hg_X13_readSum p0 p1 p2) (fun r29 => ?_)
    exact sn_sub rfl (s_X13_readAtom_j56 hg_X13_readSum hg_X13_readProduct hg_X13_readAtom hg_X13_turnsAtom p0 r29)
  refine sn_iload_n (y := (m_X13_readAtom (d + 1))) (pc := 46) dX13_readAtom_46 rfl ?_
  refine sn_goto (y := (m_X13_readAtom (d + 1))) (pc := 47) (tgt := 56) dX13_readAtom_47 (by decide) ?_
  exact sn_sub rfl (s_X13_readAtom_j56 hg_X13_readSum hg_X13_readProduct hg_X13_readAtom hg_X13_turnsAtom p0 r1)
/-! X13_turnsAtom -/
def fb_X13_turnsAtom (g_X13_readSum : (Option Nat) → (Option Nat) → Int32 → Mo Int32) (g_X13_readProduct : (Option Nat) → (Option Nat) → Int32 → Mo Int32) (g_X13_readAtom : (Option Nat) → (Option Nat) → Int32 → Mo Int32) (g_X13_turnsAtom : (Option Nat) → (Option Nat) → Int32 → Int32 → Mo Int32) (p0 : (Option Nat)) (p1 : (Option Nat)) (p2 : Int32) (p3 : Int32) : Mo Int32 :=
  mBd (mGetI 11 11 p0) (fun r1 => (if ¬ r1 = (5 : Int32) then mBd (mCk 11 p0 (g_X13_readAtom p0 p1 p2)) (fun r2 => mBd (mGetI 11 11 p0) (fun r3 => (if r3 = (5 : Int32) then mBd (mGetI 11 19 p0) (fun r4 => mBd (mPutI 11 19 p0 (r4 - (1 : Int32))) (fun _ => mRt r2)) else mBd (mCk 11 p0 (f_X13_turned p0 p1 r2 p3 r2)) (fun _ => mBd (mCk 11 p0 (f_X13_checks p0 r2)) (fun _ => mBd (mGetI 11 19 p0) (fun r5 => mBd (mPutI 11 19 p0 (r5 - (1 : Int32))) (fun _ => mRt r2))))))) else mBd (mGetI 11 18 p0) (fun r6 => mRt r6)))
set_option maxRecDepth 100000 in
theorem s_X13_turnsAtom {cx : CX} {d : Nat} {g_X13_readSum : (Option Nat) → (Option Nat) → Int32 → Mo Int32} {g_X13_readProduct : (Option Nat) → (Option Nat) → Int32 → Mo Int32} {g_X13_readAtom : (Option Nat) → (Option Nat) → Int32 → Mo Int32} {g_X13_turnsAtom : (Option Nat) → (Option Nat) → Int32 → Int32 → Mo Int32} (hg_X13_readSum : ∀ (a0 : (Option Nat)) (a1 : (Option Nat)) (a2 : Int32), Cn cx.1 (m_X13_readSum d) eI [vA a0, vA a1, vI a2] (mCk 11 a0 (g_X13_readSum a0 a1 a2))) (hg_X13_readProduct : ∀ (a0 : (Option Nat)) (a1 : (Option Nat)) (a2 : Int32), Cn cx.1 (m_X13_readProduct d) eI [vA a0, vA a1, vI a2] (mCk 11 a0 (g_X13_readProduct a0 a1 a2))) (hg_X13_readAtom : ∀ (a0 : (Option Nat)) (a1 : (Option Nat)) (a2 : Int32), Cn cx.1 (m_X13_readAtom d) eI [vA a0, vA a1, vI a2] (mCk 11 a0 (g_X13_readAtom a0 a1 a2))) (hg_X13_turnsAtom : ∀ (a0 : (Option Nat)) (a1 : (Option Nat)) (a2 : Int32) (a3 : Int32), Cn cx.1 (m_X13_turnsAtom d) eI [vA a0, vA a1, vI a2, vI a3] (mCk 11 a0 (g_X13_turnsAtom a0 a1 a2 a3))) (p0 : (Option Nat)) (p1 : (Option Nat)) (p2 : Int32) (p3 : Int32) : Sn cx (m_X13_turnsAtom (d + 1)) eI 0 [(0, vA p0), (1, vA p1), (2, vI p2), (3, vI p3)] [] (fb_X13_turnsAtom g_X13_readSum g_X13_readProduct g_X13_readAtom g_X13_turnsAtom p0 p1 p2 p3) := by
  refine sn_aload_n (y := (m_X13_turnsAtom (d + 1))) (pc := 0) dX13_turnsAtom_0 rfl ?_
  refine sn_getI (y := (m_X13_turnsAtom (d + 1))) (pc := 1) ca_11 rfl fk_X13_111 (fun _ _ _ => rfl) dX13_turnsAtom_1 (fun r1 => ?_)
  refine sn_iconst (y := (m_X13_turnsAtom (d + 1))) (pc := 4) dX13_turnsAtom_4 kc_iconst_5 ?_
  refine sn_icmp_ne (y := (m_X13_turnsAtom (d + 1))) (pc := 5) (tgt := 13) dX13_turnsAtom_5 (by decide) (fun _ => ?_) (fun _ => ?_)
  · refine sn_aload_n (y := (m_X13_turnsAtom (d + 1))) (pc := 13) dX13_turnsAtom_13 rfl ?_
    refine sn_aload_n (y := (m_X13_turnsAtom (d + 1))) (pc := 14) dX13_turnsAtom_14 rfl ?_
    refine sn_iload_n (y := (m_X13_turnsAtom (d + 1))) (pc := 15) dX13_turnsAtom_15 rfl ?_
    refine sn_invV (y := (m_X13_turnsAtom (d + 1))) (pc := 16) ca_11 (av := [vA p1, vI p2]) (o := p0) (st := []) dX13_turnsAtom_16 (lk_X13_331 d) im_X13_readAtom se_X13_readAtom rfl rfl rfl rfl ⟨by show 10 + d + 1 ≤ 10 + (d + 1); omega, by show 8 + (6 + 11) + (203 + 60 * d) ≤ 203 + 60 * (d + 1); omega⟩ (hg_X13_readAtom p0 p1 p2) (fun r2 => ?_)
    refine sn_istore (y := (m_X13_turnsAtom (d + 1))) (pc := 19) dX13_turnsAtom_19 rfl ?_
    refine sn_aload_n (y := (m_X13_turnsAtom (d + 1))) (pc := 21) dX13_turnsAtom_21 rfl ?_
    refine sn_getI (y := (m_X13_turnsAtom (d + 1))) (pc := 22) ca_11 rfl fk_X13_111 (fun _ _ _ => rfl) dX13_turnsAtom_22 (fun r3 => ?_)
    refine sn_iconst (y := (m_X13_turnsAtom (d + 1))) (pc := 25) dX13_turnsAtom_25 kc_iconst_5 ?_
    refine sn_icmp_eq (y := (m_X13_turnsAtom (d + 1))) (pc := 26) (tgt := 45) dX13_turnsAtom_26 (by decide) (fun _ => ?_) (fun _ => ?_)
    · refine sn_aload_n (y := (m_X13_turnsAtom (d + 1))) (pc := 45) dX13_turnsAtom_45 rfl ?_
      refine sn_dup (y := (m_X13_turnsAtom (d + 1))) (pc := 46) rfl dX13_turnsAtom_46 ?_
      refine sn_getI (y := (m_X13_turnsAtom (d + 1))) (pc := 47) ca_11 rfl fk_X13_307 (fun _ _ _ => rfl) dX13_turnsAtom_47 (fun r4 => ?_)
      refine sn_iconst (y := (m_X13_turnsAtom (d + 1))) (pc := 50) dX13_turnsAtom_50 kc_iconst_1 ?_
      refine sn_isub (y := (m_X13_turnsAtom (d + 1))) (pc := 51) dX13_turnsAtom_51 ?_
      refine sn_putI (y := (m_X13_turnsAtom (d + 1))) (pc := 52) ca_11 rfl fk_X13_307 (Or.inl rfl) rfl dX13_turnsAtom_52 ?_
      refine sn_iload (y := (m_X13_turnsAtom (d + 1))) (pc := 55) dX13_turnsAtom_55 rfl ?_
      exact sn_ireturn rfl dX13_turnsAtom_57
    refine sn_aload_n (y := (m_X13_turnsAtom (d + 1))) (pc := 29) dX13_turnsAtom_29 rfl ?_
    refine sn_aload_n (y := (m_X13_turnsAtom (d + 1))) (pc := 30) dX13_turnsAtom_30 rfl ?_
    refine sn_iload (y := (m_X13_turnsAtom (d + 1))) (pc := 31) dX13_turnsAtom_31 rfl ?_
    refine sn_iload_n (y := (m_X13_turnsAtom (d + 1))) (pc := 33) dX13_turnsAtom_33 rfl ?_
    refine sn_iload (y := (m_X13_turnsAtom (d + 1))) (pc := 34) dX13_turnsAtom_34 rfl ?_
    refine sn_invV (y := (m_X13_turnsAtom (d + 1))) (pc := 36) ca_11 (av := [vA p1, vI r2, vI p3, vI r2]) (o := p0) (st := []) dX13_turnsAtom_36 lk_X13_359 im_X13_turned se_X13_turned rfl rfl rfl rfl ⟨by show 3 + 1 ≤ 10 + (d + 1); omega, by show 8 + (6 + 11) + 58 ≤ 203 + 60 * (d + 1); omega⟩ (c_X13_turned cx.1 p0 p1 r2 p3 r2) (fun _ => ?_)
    refine sn_aload_n (y := (m_X13_turnsAtom (d + 1))) (pc := 39) dX13_turnsAtom_39 rfl ?_
    refine sn_iload (y := (m_X13_turnsAtom (d + 1))) (pc := 40) dX13_turnsAtom_40 rfl ?_
    refine sn_invV (y := (m_X13_turnsAtom (d + 1))) (pc := 42) ca_11 (av := [vI r2]) (o := p0) (st := []) dX13_turnsAtom_42 lk_X13_328 im_X13_checks se_X13_checks rfl rfl rfl rfl ⟨by show 3 + 1 ≤ 10 + (d + 1); omega, by show 8 + (2 + 11) + 54 ≤ 203 + 60 * (d + 1); omega⟩ (c_X13_checks cx.1 p0 r2) (fun _ => ?_)
    refine sn_aload_n (y := (m_X13_turnsAtom (d + 1))) (pc := 45) dX13_turnsAtom_45 rfl ?_
    refine sn_dup (y := (m_X13_turnsAtom (d + 1))) (pc := 46) rfl dX13_turnsAtom_46 ?_
    refine sn_getI (y := (m_X13_turnsAtom (d + 1))) (pc := 47) ca_11 rfl fk_X13_307 (fun _ _ _ => rfl) dX13_turnsAtom_47 (fun r5 => ?_)
    refine sn_iconst (y := (m_X13_turnsAtom (d + 1))) (pc := 50) dX13_turnsAtom_50 kc_iconst_1 ?_
    refine sn_isub (y := (m_X13_turnsAtom (d + 1))) (pc := 51) dX13_turnsAtom_51 ?_
    refine sn_putI (y := (m_X13_turnsAtom (d + 1))) (pc := 52) ca_11 rfl fk_X13_307 (Or.inl rfl) rfl dX13_turnsAtom_52 ?_
    refine sn_iload (y := (m_X13_turnsAtom (d + 1))) (pc := 55) dX13_turnsAtom_55 rfl ?_
    exact sn_ireturn rfl dX13_turnsAtom_57
  refine sn_aload_n (y := (m_X13_turnsAtom (d + 1))) (pc := 8) dX13_turnsAtom_8 rfl ?_
  refine sn_getI (y := (m_X13_turnsAtom (d + 1))) (pc := 9) ca_11 rfl fk_X13_304 (fun _ _ _ => rfl) dX13_turnsAtom_9 (fun r6 => ?_)
  exact sn_ireturn rfl dX13_turnsAtom_12
/-! grB -/
def grB : Nat → ((Option Nat) → (Option Nat) → Int32 → Mo Int32) × ((Option Nat) → (Option Nat) → Int32 → Mo Int32) × ((Option Nat) → (Option Nat) → Int32 → Mo Int32) × ((Option Nat) → (Option Nat) → Int32 → Int32 → Mo Int32)
  | 0 => ((fun _ _ _ => mBad), (fun _ _ _ => mBad), (fun _ _ _ => mBad), (fun _ _ _ _ => mBad))
  | d + 1 => (fb_X13_readSum (grB d).1 (grB d).2.1 (grB d).2.2.1 (grB d).2.2.2, fb_X13_readProduct (grB d).1 (grB d).2.1 (grB d).2.2.1 (grB d).2.2.2, fb_X13_readAtom (grB d).1 (grB d).2.1 (grB d).2.2.1 (grB d).2.2.2, fb_X13_turnsAtom (grB d).1 (grB d).2.1 (grB d).2.2.1 (grB d).2.2.2)
def f_X13_readSum (d : Nat) (p0 : (Option Nat)) (p1 : (Option Nat)) (p2 : Int32) : Mo Int32 := (grB d).1 p0 p1 p2
def f_X13_readProduct (d : Nat) (p0 : (Option Nat)) (p1 : (Option Nat)) (p2 : Int32) : Mo Int32 := (grB d).2.1 p0 p1 p2
def f_X13_readAtom (d : Nat) (p0 : (Option Nat)) (p1 : (Option Nat)) (p2 : Int32) : Mo Int32 := (grB d).2.2.1 p0 p1 p2
def f_X13_turnsAtom (d : Nat) (p0 : (Option Nat)) (p1 : (Option Nat)) (p2 : Int32) (p3 : Int32) : Mo Int32 := (grB d).2.2.2 p0 p1 p2 p3
set_option maxRecDepth 100000 in
theorem c_grB (g : Gl) : ∀ d : Nat, (∀ (p0 : (Option Nat)) (p1 : (Option Nat)) (p2 : Int32), Cn g (m_X13_readSum d) eI [vA p0, vA p1, vI p2] (mCk 11 p0 (f_X13_readSum d p0 p1 p2))) ∧ (∀ (p0 : (Option Nat)) (p1 : (Option Nat)) (p2 : Int32), Cn g (m_X13_readProduct d) eI [vA p0, vA p1, vI p2] (mCk 11 p0 (f_X13_readProduct d p0 p1 p2))) ∧ (∀ (p0 : (Option Nat)) (p1 : (Option Nat)) (p2 : Int32), Cn g (m_X13_readAtom d) eI [vA p0, vA p1, vI p2] (mCk 11 p0 (f_X13_readAtom d p0 p1 p2))) ∧ (∀ (p0 : (Option Nat)) (p1 : (Option Nat)) (p2 : Int32) (p3 : Int32), Cn g (m_X13_turnsAtom d) eI [vA p0, vA p1, vI p2, vI p3] (mCk 11 p0 (f_X13_turnsAtom d p0 p1 p2 p3)))
  | 0 => ⟨fun _ _ _ => cn_bad (fun _ _ _ e => by obtain ⟨_, _, _, e1⟩ := ck_inv e; cases e1), fun _ _ _ => cn_bad (fun _ _ _ e => by obtain ⟨_, _, _, e1⟩ := ck_inv e; cases e1), fun _ _ _ => cn_bad (fun _ _ _ e => by obtain ⟨_, _, _, e1⟩ := ck_inv e; cases e1), fun _ _ _ _ => cn_bad (fun _ _ _ e => by obtain ⟨_, _, _, e1⟩ := ck_inv e; cases e1)⟩
  | d + 1 => by
    obtain ⟨h1, h2, h3, h4⟩ := c_grB g d
    exact ⟨fun p0 p1 p2 => cn_of_sn (by decide +kernel : plainFor yX13_readSum = true) rfl (fun r => ⟨r, rfl⟩) rfl (fun cx hcx => sn_ck (s_X13_readSum (hcx ▸ h1) (hcx ▸ h2) (hcx ▸ h3) (hcx ▸ h4) p0 p1 p2)), fun p0 p1 p2 => cn_of_sn (by decide +kernel : plainFor yX13_readProduct = true) rfl (fun r => ⟨r, rfl⟩) rfl (fun cx hcx => sn_ck (s_X13_readProduct (hcx ▸ h1) (hcx ▸ h2) (hcx ▸ h3) (hcx ▸ h4) p0 p1 p2)), fun p0 p1 p2 => cn_of_sn (by decide +kernel : plainFor yX13_readAtom = true) rfl (fun r => ⟨r, rfl⟩) rfl (fun cx hcx => sn_ck (s_X13_readAtom (hcx ▸ h1) (hcx ▸ h2) (hcx ▸ h3) (hcx ▸ h4) p0 p1 p2)), fun p0 p1 p2 p3 => cn_of_sn (by decide +kernel : plainFor yX13_turnsAtom = true) rfl (fun r => ⟨r, rfl⟩) rfl (fun cx hcx => sn_ck (s_X13_turnsAtom (hcx ▸ h1) (hcx ▸ h2) (hcx ▸ h3) (hcx ▸ h4) p0 p1 p2 p3))⟩
set_option maxRecDepth 100000 in
theorem c_X13_readSum (d : Nat) (g : Gl) (p0 : (Option Nat)) (p1 : (Option Nat)) (p2 : Int32) : Cn g (m_X13_readSum d) eI [vA p0, vA p1, vI p2] (mCk 11 p0 (f_X13_readSum d p0 p1 p2)) := (c_grB g d).1 p0 p1 p2
set_option maxRecDepth 100000 in
theorem c_X13_readProduct (d : Nat) (g : Gl) (p0 : (Option Nat)) (p1 : (Option Nat)) (p2 : Int32) : Cn g (m_X13_readProduct d) eI [vA p0, vA p1, vI p2] (mCk 11 p0 (f_X13_readProduct d p0 p1 p2)) := (c_grB g d).2.1 p0 p1 p2
set_option maxRecDepth 100000 in
theorem c_X13_readAtom (d : Nat) (g : Gl) (p0 : (Option Nat)) (p1 : (Option Nat)) (p2 : Int32) : Cn g (m_X13_readAtom d) eI [vA p0, vA p1, vI p2] (mCk 11 p0 (f_X13_readAtom d p0 p1 p2)) := (c_grB g d).2.2.1 p0 p1 p2
set_option maxRecDepth 100000 in
theorem c_X13_turnsAtom (d : Nat) (g : Gl) (p0 : (Option Nat)) (p1 : (Option Nat)) (p2 : Int32) (p3 : Int32) : Cn g (m_X13_turnsAtom d) eI [vA p0, vA p1, vI p2, vI p3] (mCk 11 p0 (f_X13_turnsAtom d p0 p1 p2 p3)) := (c_grB g d).2.2.2 p0 p1 p2 p3
/-! X13_readLet -/
def f_X13_readLet_b134 (x0 : (Option Nat)) (x2 : Int64) (x4 : Int32) (x5 : Int32) (k134 : Int32 → Mo Unit) (x6 : Int32) : Mo Unit :=
  (if x6 ≥ (12 : Int32) then mBd (mGetA 11 4 x0) (fun r15 => mBd (mGetA 9 10 r15) (fun r16 => mBd (mGetA 11 4 x0) (fun r17 => mBd (mGetI 9 2 r17) (fun r18 => mBd (mStI r16 r18 x4) (fun _ => mBd (mGetA 11 4 x0) (fun r19 => mBd (mGetI 9 2 r19) (fun r20 => mBd (mCk 11 x0 (f_X13_names x0 x2 (2 : Int32) r20)) (fun _ => mBd (mGetA 11 4 x0) (fun r21 => mBd (mGetI 9 2 r21) (fun r22 => mBd (mPutI 9 2 r21 (r22 + (1 : Int32))) (fun _ => mRt ()))))))))))) else mBd (mGetA 11 4 x0) (fun r23 => mBd (mGetA 9 11 r23) (fun r24 => mBd (mGetA 11 4 x0) (fun r25 => mBd (mGetI 9 2 r25) (fun r26 => mBd (mGetA 11 5 x0) (fun r27 => mBd (mLdJ r27 ((x5 * (12 : Int32)) + x6)) (fun r28 => mBd (mStJ r24 (((12 : Int32) * r26) + x6) r28) (fun _ => k134 (x6 + 1)))))))))
def f_X13_readLet_l134 (x0 : (Option Nat)) (x2 : Int64) (x4 : Int32) (x5 : Int32) : Int32 → Mo Unit := lq1 (f_X13_readLet_b134 x0 x2 x4 x5) fuel
set_option maxRecDepth 100000 in
theorem s_X13_readLet_b134 {cx : CX} (x0 : (Option Nat)) (x2 : Int64) (x4 : Int32) (x5 : Int32) {k134 : Int32 → Mo Unit} (hk134 : ∀ (z6 : Int32), Sn cx m_X13_readLet eV 134 [(6, vI z6), (0, vA x0), (2, vJ x2), (4, vI x4), (5, vI x5)] [] (k134 z6)) (x6 : Int32) : Sn cx m_X13_readLet eV 134 [(6, vI x6), (0, vA x0), (2, vJ x2), (4, vI x4), (5, vI x5)] [] (f_X13_readLet_b134 x0 x2 x4 x5 k134 x6) := by
  refine sn_iload (y := m_X13_readLet) (pc := 134) dX13_readLet_134 rfl ?_
  refine sn_bipush (y := m_X13_readLet) (pc := 136) dX13_readLet_136 kc_bipush_12 ?_
  refine sn_icmp_ge (y := m_X13_readLet) (pc := 138) (tgt := 181) dX13_readLet_138 (by decide) (fun _ => ?_) (fun _ => ?_)
  · refine sn_aload_n (y := m_X13_readLet) (pc := 181) dX13_readLet_181 rfl ?_
    refine sn_getA (y := m_X13_readLet) (pc := 182) ca_11 rfl fk_X13_205 (fun _ _ _ => rfl) dX13_readLet_182 (fun r15 => ?_)
    refine sn_getA (y := m_X13_readLet) (pc := 185) ca_9 rfl fk_X13_316 (fun _ _ _ => rfl) dX13_readLet_185 (fun r16 => ?_)
    refine sn_aload_n (y := m_X13_readLet) (pc := 188) dX13_readLet_188 rfl ?_
    refine sn_getA (y := m_X13_readLet) (pc := 189) ca_11 rfl fk_X13_205 (fun _ _ _ => rfl) dX13_readLet_189 (fun r17 => ?_)
    refine sn_getI (y := m_X13_readLet) (pc := 192) ca_9 rfl fk_X13_301 (fun _ _ _ => rfl) dX13_readLet_192 (fun r18 => ?_)
    refine sn_iload (y := m_X13_readLet) (pc := 195) dX13_readLet_195 rfl ?_
    refine sn_iastore (y := m_X13_readLet) (pc := 197) dX13_readLet_197 ?_
    refine sn_aload_n (y := m_X13_readLet) (pc := 198) dX13_readLet_198 rfl ?_
    refine sn_lload_n (y := m_X13_readLet) (pc := 199) dX13_readLet_199 rfl ?_
    refine sn_iconst (y := m_X13_readLet) (pc := 200) dX13_readLet_200 kc_iconst_2 ?_
    refine sn_aload_n (y := m_X13_readLet) (pc := 201) dX13_readLet_201 rfl ?_
    refine sn_getA (y := m_X13_readLet) (pc := 202) ca_11 rfl fk_X13_205 (fun _ _ _ => rfl) dX13_readLet_202 (fun r19 => ?_)
    refine sn_getI (y := m_X13_readLet) (pc := 205) ca_9 rfl fk_X13_301 (fun _ _ _ => rfl) dX13_readLet_205 (fun r20 => ?_)
    refine sn_invV (y := m_X13_readLet) (pc := 208) ca_11 (av := [vJ x2, vI (2 : Int32), vI r20]) (o := x0) (st := []) dX13_readLet_208 lk_X13_264 im_X13_names se_X13_names rfl rfl rfl rfl ⟨by decide, by decide⟩ (c_X13_names cx.1 x0 x2 (2 : Int32) r20) (fun _ => ?_)
    refine sn_aload_n (y := m_X13_readLet) (pc := 211) dX13_readLet_211 rfl ?_
    refine sn_getA (y := m_X13_readLet) (pc := 212) ca_11 rfl fk_X13_205 (fun _ _ _ => rfl) dX13_readLet_212 (fun r21 => ?_)
    refine sn_dup (y := m_X13_readLet) (pc := 215) rfl dX13_readLet_215 ?_
    refine sn_getI (y := m_X13_readLet) (pc := 216) ca_9 rfl fk_X13_301 (fun _ _ _ => rfl) dX13_readLet_216 (fun r22 => ?_)
    refine sn_iconst (y := m_X13_readLet) (pc := 219) dX13_readLet_219 kc_iconst_1 ?_
    refine sn_iadd (y := m_X13_readLet) (pc := 220) dX13_readLet_220 ?_
    refine sn_putI (y := m_X13_readLet) (pc := 221) ca_9 rfl fk_X13_301 (Or.inl rfl) rfl dX13_readLet_221 ?_
    exact sn_return rfl dX13_readLet_224
  refine sn_aload_n (y := m_X13_readLet) (pc := 141) dX13_readLet_141 rfl ?_
  refine sn_getA (y := m_X13_readLet) (pc := 142) ca_11 rfl fk_X13_205 (fun _ _ _ => rfl) dX13_readLet_142 (fun r23 => ?_)
  refine sn_getA (y := m_X13_readLet) (pc := 145) ca_9 rfl fk_X13_314 (fun _ _ _ => rfl) dX13_readLet_145 (fun r24 => ?_)
  refine sn_bipush (y := m_X13_readLet) (pc := 148) dX13_readLet_148 kc_bipush_12 ?_
  refine sn_aload_n (y := m_X13_readLet) (pc := 150) dX13_readLet_150 rfl ?_
  refine sn_getA (y := m_X13_readLet) (pc := 151) ca_11 rfl fk_X13_205 (fun _ _ _ => rfl) dX13_readLet_151 (fun r25 => ?_)
  refine sn_getI (y := m_X13_readLet) (pc := 154) ca_9 rfl fk_X13_301 (fun _ _ _ => rfl) dX13_readLet_154 (fun r26 => ?_)
  refine sn_imul (y := m_X13_readLet) (pc := 157) dX13_readLet_157 ?_
  refine sn_iload (y := m_X13_readLet) (pc := 158) dX13_readLet_158 rfl ?_
  refine sn_iadd (y := m_X13_readLet) (pc := 160) dX13_readLet_160 ?_
  refine sn_aload_n (y := m_X13_readLet) (pc := 161) dX13_readLet_161 rfl ?_
  refine sn_getA (y := m_X13_readLet) (pc := 162) ca_11 rfl fk_X13_13 (fun _ _ _ => rfl) dX13_readLet_162 (fun r27 => ?_)
  refine sn_iload (y := m_X13_readLet) (pc := 165) dX13_readLet_165 rfl ?_
  refine sn_bipush (y := m_X13_readLet) (pc := 167) dX13_readLet_167 kc_bipush_12 ?_
  refine sn_imul (y := m_X13_readLet) (pc := 169) dX13_readLet_169 ?_
  refine sn_iload (y := m_X13_readLet) (pc := 170) dX13_readLet_170 rfl ?_
  refine sn_iadd (y := m_X13_readLet) (pc := 172) dX13_readLet_172 ?_
  refine sn_laload (y := m_X13_readLet) (pc := 173) dX13_readLet_173 (fun r28 => ?_)
  refine sn_lastore (y := m_X13_readLet) (pc := 174) dX13_readLet_174 ?_
  refine sn_iinc (y := m_X13_readLet) (pc := 175) (v := x6 + 1) dX13_readLet_175 rfl (by rfl) rfl ?_
  refine sn_goto (y := m_X13_readLet) (pc := 178) (tgt := 134) dX13_readLet_178 (by decide) ?_
  exact sn_sub rfl (hk134 (x6 + 1))
set_option maxRecDepth 100000 in
theorem s_X13_readLet_l134 {cx : CX} (x0 : (Option Nat)) (x2 : Int64) (x4 : Int32) (x5 : Int32) (x6 : Int32) : Sn cx m_X13_readLet eV 134 [(6, vI x6), (0, vA x0), (2, vJ x2), (4, vI x4), (5, vI x5)] [] (f_X13_readLet_l134 x0 x2 x4 x5 x6) :=
  sn_lq1 (L := fun x6 => [(6, vI x6), (0, vA x0), (2, vJ x2), (4, vI x4), (5, vI x5)]) (fun k hk x6 => s_X13_readLet_b134 x0 x2 x4 x5 hk x6) fuel x6
def f_X13_readLet_j122 (x0 : (Option Nat)) (x2 : Int64) (x4 : Int32) (x5 : Int32) : Mo Unit :=
  mBd (mGetI 11 11 x0) (fun r14 => (if ¬ r14 = (5 : Int32) then f_X13_readLet_l134 x0 x2 x4 x5 (0 : Int32) else mRt ()))
set_option maxRecDepth 100000 in
theorem s_X13_readLet_j122 {cx : CX} (x0 : (Option Nat)) (x2 : Int64) (x4 : Int32) (x5 : Int32) : Sn cx m_X13_readLet eV 122 [(0, vA x0), (2, vJ x2), (4, vI x4), (5, vI x5)] [] (f_X13_readLet_j122 x0 x2 x4 x5) := by
  refine sn_aload_n (y := m_X13_readLet) (pc := 122) dX13_readLet_122 rfl ?_
  refine sn_getI (y := m_X13_readLet) (pc := 123) ca_11 rfl fk_X13_111 (fun _ _ _ => rfl) dX13_readLet_123 (fun r14 => ?_)
  refine sn_iconst (y := m_X13_readLet) (pc := 126) dX13_readLet_126 kc_iconst_5 ?_
  refine sn_icmp_ne (y := m_X13_readLet) (pc := 127) (tgt := 131) dX13_readLet_127 (by decide) (fun _ => ?_) (fun _ => ?_)
  · refine sn_iconst (y := m_X13_readLet) (pc := 131) dX13_readLet_131 kc_iconst_0 ?_
    refine sn_istore (y := m_X13_readLet) (pc := 132) dX13_readLet_132 rfl ?_
    exact sn_sub rfl (s_X13_readLet_l134 x0 x2 x4 x5 (0 : Int32))
  exact sn_return rfl dX13_readLet_130
def f_X13_readLet_j108 (x0 : (Option Nat)) (x1 : Int32) (x2 : Int64) (x4 : Int32) (x5 : Int32) : Mo Unit :=
  mBd (mGetI 11 20 x0) (fun r13 => (if r13 = 0 then f_X13_readLet_j122 x0 x2 x4 x5 else mBd (mCk 11 x0 (f_X13_wrongThere x0 (7 : Int32) x1)) (fun _ => f_X13_readLet_j122 x0 x2 x4 x5)))
set_option maxRecDepth 100000 in
theorem s_X13_readLet_j108 {cx : CX} (x0 : (Option Nat)) (x1 : Int32) (x2 : Int64) (x4 : Int32) (x5 : Int32) : Sn cx m_X13_readLet eV 108 [(0, vA x0), (1, vI x1), (2, vJ x2), (4, vI x4), (5, vI x5)] [] (f_X13_readLet_j108 x0 x1 x2 x4 x5) := by
  refine sn_aload_n (y := m_X13_readLet) (pc := 108) dX13_readLet_108 rfl ?_
  refine sn_getI (y := m_X13_readLet) (pc := 109) ca_11 rfl fk_X13_293 (fun _ _ _ => rfl) dX13_readLet_109 (fun r13 => ?_)
  refine sn_if_eq (y := m_X13_readLet) (pc := 112) (tgt := 122) dX13_readLet_112 (by decide) (fun _ => ?_) (fun _ => ?_)
  · exact sn_sub rfl (s_X13_readLet_j122 x0 x2 x4 x5)
  refine sn_aload_n (y := m_X13_readLet) (pc := 115) dX13_readLet_115 rfl ?_
  refine sn_bipush (y := m_X13_readLet) (pc := 116) dX13_readLet_116 kc_bipush_7 ?_
  refine sn_iload_n (y := m_X13_readLet) (pc := 118) dX13_readLet_118 rfl ?_
  refine sn_invV (y := m_X13_readLet) (pc := 119) ca_11 (av := [vI (7 : Int32), vI x1]) (o := x0) (st := []) dX13_readLet_119 lk_X13_140 im_X13_wrongThere se_X13_wrongThere rfl rfl rfl rfl ⟨by decide, by decide⟩ (c_X13_wrongThere cx.1 x0 (7 : Int32) x1) (fun _ => ?_)
  exact sn_sub rfl (s_X13_readLet_j122 x0 x2 x4 x5)
def f_X13_readLet (p0 : (Option Nat)) : Mo Unit :=
  mBd (mGetA 11 4 p0) (fun r1 => mBd (mGetI 9 2 r1) (fun r2 => mBd (mCk 11 p0 (f_X13_begins p0 r2 (8 : Int32))) (fun _ => mBd (mGetI 11 12 p0) (fun r3 => mBd (mCk 11 p0 (f_X13_readFresh p0)) (fun r4 => mBd (mCk 11 p0 (f_X13_readField p0)) (fun r5 => mBd (mCk 11 p0 (f_X13_needs p0 ((some 14)))) (fun _ => mBd (mPutI 11 18 p0 (0 : Int32)) (fun _ => mBd (mPutI 11 19 p0 (0 : Int32)) (fun _ => mBd (mPutZ 11 20 p0 (0 : Int32)) (fun _ => mBd (mGetI 11 11 p0) (fun r6 => (if ¬ r6 = (5 : Int32) then mBd (mGetA 11 4 p0) (fun r7 => mBd (mGetA 9 4 r7) (fun r8 => mBd (mLdA 7 r8 r5) (fun r9 => mBd (mCk 11 p0 (f_X13_readSum 60 p0 r9 r5)) (fun r10 => mBd (mGetI 11 11 p0) (fun r11 => (if ¬ r11 = (5 : Int32) then mBd (mGetI 11 11 p0) (fun r12 => (if r12 = (1 : Int32) then f_X13_readLet_j108 p0 r3 r4 r5 r10 else mBd (mCk 11 p0 (f_X13_isSign p0 (59 : Int32))) (fun r29 => (if ¬ r29 = 0 then f_X13_readLet_j108 p0 r3 r4 r5 r10 else mBd (mCk 11 p0 (f_X13_wrong p0 (1 : Int32))) (fun _ => f_X13_readLet_j108 p0 r3 r4 r5 r10))))) else mRt ())))))) else mRt ()))))))))))))
set_option maxRecDepth 100000 in
theorem s_X13_readLet {cx : CX} (p0 : (Option Nat)) : Sn cx m_X13_readLet eV 0 [(0, vA p0)] [] (f_X13_readLet p0) := by
  refine sn_aload_n (y := m_X13_readLet) (pc := 0) dX13_readLet_0 rfl ?_
  refine sn_aload_n (y := m_X13_readLet) (pc := 1) dX13_readLet_1 rfl ?_
  refine sn_getA (y := m_X13_readLet) (pc := 2) ca_11 rfl fk_X13_205 (fun _ _ _ => rfl) dX13_readLet_2 (fun r1 => ?_)
  refine sn_getI (y := m_X13_readLet) (pc := 5) ca_9 rfl fk_X13_301 (fun _ _ _ => rfl) dX13_readLet_5 (fun r2 => ?_)
  refine sn_bipush (y := m_X13_readLet) (pc := 8) dX13_readLet_8 kc_bipush_8 ?_
  refine sn_invV (y := m_X13_readLet) (pc := 10) ca_11 (av := [vI r2, vI (8 : Int32)]) (o := p0) (st := []) dX13_readLet_10 lk_X13_249 im_X13_begins se_X13_begins rfl rfl rfl rfl ⟨by decide, by decide⟩ (c_X13_begins cx.1 p0 r2 (8 : Int32)) (fun _ => ?_)
  refine sn_aload_n (y := m_X13_readLet) (pc := 13) dX13_readLet_13 rfl ?_
  refine sn_getI (y := m_X13_readLet) (pc := 14) ca_11 rfl fk_X13_120 (fun _ _ _ => rfl) dX13_readLet_14 (fun r3 => ?_)
  refine sn_istore_n (y := m_X13_readLet) (pc := 17) dX13_readLet_17 rfl ?_
  refine sn_aload_n (y := m_X13_readLet) (pc := 18) dX13_readLet_18 rfl ?_
  refine sn_invV (y := m_X13_readLet) (pc := 19) ca_11 (av := []) (o := p0) (st := []) dX13_readLet_19 lk_X13_252 im_X13_readFresh se_X13_readFresh rfl rfl rfl rfl ⟨by decide, by decide⟩ (c_X13_readFresh cx.1 p0) (fun r4 => ?_)
  refine sn_lstore_n (y := m_X13_readLet) (pc := 22) dX13_readLet_22 rfl ?_
  refine sn_aload_n (y := m_X13_readLet) (pc := 23) dX13_readLet_23 rfl ?_
  refine sn_invV (y := m_X13_readLet) (pc := 24) ca_11 (av := []) (o := p0) (st := []) dX13_readLet_24 lk_X13_270 im_X13_readField se_X13_readField rfl rfl rfl rfl ⟨by decide, by decide⟩ (c_X13_readField cx.1 p0) (fun r5 => ?_)
  refine sn_istore (y := m_X13_readLet) (pc := 27) dX13_readLet_27 rfl ?_
  refine sn_aload_n (y := m_X13_readLet) (pc := 29) dX13_readLet_29 rfl ?_
  refine sn_ldcS (y := m_X13_readLet) (pc := 30) (i := 11) rfl (by decide) dX13_readLet_30 ?_
  refine sn_invV (y := m_X13_readLet) (pc := 32) ca_11 (av := [vA ((some 14))]) (o := p0) (st := []) dX13_readLet_32 lk_X13_227 im_X13_needs se_X13_needs rfl rfl rfl rfl ⟨by decide, by decide⟩ (c_X13_needs cx.1 p0 ((some 14))) (fun _ => ?_)
  refine sn_aload_n (y := m_X13_readLet) (pc := 35) dX13_readLet_35 rfl ?_
  refine sn_iconst (y := m_X13_readLet) (pc := 36) dX13_readLet_36 kc_iconst_0 ?_
  refine sn_putI (y := m_X13_readLet) (pc := 37) ca_11 rfl fk_X13_304 (Or.inl rfl) rfl dX13_readLet_37 ?_
  refine sn_aload_n (y := m_X13_readLet) (pc := 40) dX13_readLet_40 rfl ?_
  refine sn_iconst (y := m_X13_readLet) (pc := 41) dX13_readLet_41 kc_iconst_0 ?_
  refine sn_putI (y := m_X13_readLet) (pc := 42) ca_11 rfl fk_X13_307 (Or.inl rfl) rfl dX13_readLet_42 ?_
  refine sn_aload_n (y := m_X13_readLet) (pc := 45) dX13_readLet_45 rfl ?_
  refine sn_iconst (y := m_X13_readLet) (pc := 46) dX13_readLet_46 kc_iconst_0 ?_
  refine sn_putZ (y := m_X13_readLet) (pc := 47) ca_11 rfl fk_X13_293 (Or.inl rfl) rfl dX13_readLet_47 ?_
  refine sn_aload_n (y := m_X13_readLet) (pc := 50) dX13_readLet_50 rfl ?_
  refine sn_getI (y := m_X13_readLet) (pc := 51) ca_11 rfl fk_X13_111 (fun _ _ _ => rfl) dX13_readLet_51 (fun r6 => ?_)
  refine sn_iconst (y := m_X13_readLet) (pc := 54) dX13_readLet_54 kc_iconst_5 ?_
  refine sn_icmp_ne (y := m_X13_readLet) (pc := 55) (tgt := 59) dX13_readLet_55 (by decide) (fun _ => ?_) (fun _ => ?_)
  · refine sn_aload_n (y := m_X13_readLet) (pc := 59) dX13_readLet_59 rfl ?_
    refine sn_aload_n (y := m_X13_readLet) (pc := 60) dX13_readLet_60 rfl ?_
    refine sn_getA (y := m_X13_readLet) (pc := 61) ca_11 rfl fk_X13_205 (fun _ _ _ => rfl) dX13_readLet_61 (fun r7 => ?_)
    refine sn_getA (y := m_X13_readLet) (pc := 64) ca_9 rfl fk_X13_259 (fun _ _ _ => rfl) dX13_readLet_64 (fun r8 => ?_)
    refine sn_iload (y := m_X13_readLet) (pc := 67) dX13_readLet_67 rfl ?_
    refine sn_aaload (y := m_X13_readLet) (pc := 69) dX13_readLet_69 (fun r9 => ?_)
    refine sn_iload (y := m_X13_readLet) (pc := 70) dX13_readLet_70 rfl ?_
    refine sn_invV (y := m_X13_readLet) (pc := 72) ca_11 (av := [vA r9, vI r5]) (o := p0) (st := []) dX13_readLet_72 (lk_X13_310 60) im_X13_readSum se_X13_readSum rfl rfl rfl rfl ⟨by decide, by decide⟩ (c_X13_readSum 60 cx.1 p0 r9 r5) (fun r10 => ?_)
    refine sn_istore (y := m_X13_readLet) (pc := 75) dX13_readLet_75 rfl ?_
    refine sn_aload_n (y := m_X13_readLet) (pc := 77) dX13_readLet_77 rfl ?_
    refine sn_getI (y := m_X13_readLet) (pc := 78) ca_11 rfl fk_X13_111 (fun _ _ _ => rfl) dX13_readLet_78 (fun r11 => ?_)
    refine sn_iconst (y := m_X13_readLet) (pc := 81) dX13_readLet_81 kc_iconst_5 ?_
    refine sn_icmp_ne (y := m_X13_readLet) (pc := 82) (tgt := 86) dX13_readLet_82 (by decide) (fun _ => ?_) (fun _ => ?_)
    · refine sn_aload_n (y := m_X13_readLet) (pc := 86) dX13_readLet_86 rfl ?_
      refine sn_getI (y := m_X13_readLet) (pc := 87) ca_11 rfl fk_X13_111 (fun _ _ _ => rfl) dX13_readLet_87 (fun r12 => ?_)
      refine sn_iconst (y := m_X13_readLet) (pc := 90) dX13_readLet_90 kc_iconst_1 ?_
      refine sn_icmp_eq (y := m_X13_readLet) (pc := 91) (tgt := 108) dX13_readLet_91 (by decide) (fun _ => ?_) (fun _ => ?_)
      · exact sn_sub rfl (s_X13_readLet_j108 p0 r3 r4 r5 r10)
      refine sn_aload_n (y := m_X13_readLet) (pc := 94) dX13_readLet_94 rfl ?_
      refine sn_bipush (y := m_X13_readLet) (pc := 95) dX13_readLet_95 kc_bipush_59 ?_
      refine sn_invV (y := m_X13_readLet) (pc := 97) ca_11 (av := [vI (59 : Int32)]) (o := p0) (st := []) dX13_readLet_97 lk_X13_161 im_X13_isSign se_X13_isSign rfl rfl rfl rfl ⟨by decide, by decide⟩ (c_X13_isSign cx.1 p0 (59 : Int32)) (fun r29 => ?_)
      refine sn_if_ne (y := m_X13_readLet) (pc := 100) (tgt := 108) dX13_readLet_100 (by decide) (fun _ => ?_) (fun _ => ?_)
      · exact sn_sub rfl (s_X13_readLet_j108 p0 r3 r4 r5 r10)
      refine sn_aload_n (y := m_X13_readLet) (pc := 103) dX13_readLet_103 rfl ?_
      refine sn_iconst (y := m_X13_readLet) (pc := 104) dX13_readLet_104 kc_iconst_1 ?_
      refine sn_invV (y := m_X13_readLet) (pc := 105) ca_11 (av := [vI (1 : Int32)]) (o := p0) (st := []) dX13_readLet_105 lk_X13_164 im_X13_wrong se_X13_wrong rfl rfl rfl rfl ⟨by decide, by decide⟩ (c_X13_wrong cx.1 p0 (1 : Int32)) (fun _ => ?_)
      exact sn_sub rfl (s_X13_readLet_j108 p0 r3 r4 r5 r10)
    exact sn_return rfl dX13_readLet_85
  exact sn_return rfl dX13_readLet_58
set_option maxRecDepth 100000 in
theorem c_X13_readLet (g : Gl) (p0 : (Option Nat)) : Cn g m_X13_readLet eV [vA p0] (mCk 11 p0 (f_X13_readLet p0)) := cn_of_sn (by decide +kernel) rfl (fun _ => rfl) rfl (fun _ _ => sn_ck (s_X13_readLet p0))
/-! X13_readLine -/
def f_X13_readLine (p0 : (Option Nat)) : Mo Unit :=
  mBd (mCk 11 p0 (f_X13_isWord p0 ((some 6)))) (fun r1 => (if r1 = 0 then mBd (mCk 11 p0 (f_X13_isWord p0 ((some 7)))) (fun r2 => (if r2 = 0 then mBd (mCk 11 p0 (f_X13_isWord p0 ((some 8)))) (fun r3 => (if r3 = 0 then mBd (mCk 11 p0 (f_X13_wrong p0 (1 : Int32))) (fun _ => mRt ()) else mBd (mCk 11 p0 (f_X13_readLet p0)) (fun _ => mRt ()))) else mBd (mCk 11 p0 (f_X13_readEquation p0)) (fun _ => mRt ()))) else mBd (mCk 11 p0 (f_X13_readFieldLine p0)) (fun _ => mRt ())))
set_option maxRecDepth 100000 in
theorem s_X13_readLine {cx : CX} (p0 : (Option Nat)) : Sn cx m_X13_readLine eV 0 [(0, vA p0)] [] (f_X13_readLine p0) := by
  refine sn_aload_n (y := m_X13_readLine) (pc := 0) dX13_readLine_0 rfl ?_
  refine sn_ldcS (y := m_X13_readLine) (pc := 1) (i := 3) rfl (by decide) dX13_readLine_1 ?_
  refine sn_invV (y := m_X13_readLine) (pc := 3) ca_11 (av := [vA ((some 6))]) (o := p0) (st := []) dX13_readLine_3 lk_X13_154 im_X13_isWord se_X13_isWord rfl rfl rfl rfl ⟨by decide, by decide⟩ (c_X13_isWord cx.1 p0 ((some 6))) (fun r1 => ?_)
  refine sn_if_eq (y := m_X13_readLine) (pc := 6) (tgt := 16) dX13_readLine_6 (by decide) (fun _ => ?_) (fun _ => ?_)
  · refine sn_aload_n (y := m_X13_readLine) (pc := 16) dX13_readLine_16 rfl ?_
    refine sn_ldcS (y := m_X13_readLine) (pc := 17) (i := 4) rfl (by decide) dX13_readLine_17 ?_
    refine sn_invV (y := m_X13_readLine) (pc := 19) ca_11 (av := [vA ((some 7))]) (o := p0) (st := []) dX13_readLine_19 lk_X13_154 im_X13_isWord se_X13_isWord rfl rfl rfl rfl ⟨by decide, by decide⟩ (c_X13_isWord cx.1 p0 ((some 7))) (fun r2 => ?_)
    refine sn_if_eq (y := m_X13_readLine) (pc := 22) (tgt := 32) dX13_readLine_22 (by decide) (fun _ => ?_) (fun _ => ?_)
    · refine sn_aload_n (y := m_X13_readLine) (pc := 32) dX13_readLine_32 rfl ?_
      refine sn_ldcS (y := m_X13_readLine) (pc := 33) (i := 5) rfl (by decide) dX13_readLine_33 ?_
      refine sn_invV (y := m_X13_readLine) (pc := 35) ca_11 (av := [vA ((some 8))]) (o := p0) (st := []) dX13_readLine_35 lk_X13_154 im_X13_isWord se_X13_isWord rfl rfl rfl rfl ⟨by decide, by decide⟩ (c_X13_isWord cx.1 p0 ((some 8))) (fun r3 => ?_)
      refine sn_if_eq (y := m_X13_readLine) (pc := 38) (tgt := 48) dX13_readLine_38 (by decide) (fun _ => ?_) (fun _ => ?_)
      · refine sn_aload_n (y := m_X13_readLine) (pc := 48) dX13_readLine_48 rfl ?_
        refine sn_iconst (y := m_X13_readLine) (pc := 49) dX13_readLine_49 kc_iconst_1 ?_
        refine sn_invV (y := m_X13_readLine) (pc := 50) ca_11 (av := [vI (1 : Int32)]) (o := p0) (st := []) dX13_readLine_50 lk_X13_164 im_X13_wrong se_X13_wrong rfl rfl rfl rfl ⟨by decide, by decide⟩ (c_X13_wrong cx.1 p0 (1 : Int32)) (fun _ => ?_)
        exact sn_return rfl dX13_readLine_53
      refine sn_aload_n (y := m_X13_readLine) (pc := 41) dX13_readLine_41 rfl ?_
      refine sn_invV (y := m_X13_readLine) (pc := 42) ca_11 (av := []) (o := p0) (st := []) dX13_readLine_42 lk_X13_246 im_X13_readLet se_X13_readLet rfl rfl rfl rfl ⟨by decide, by decide⟩ (c_X13_readLet cx.1 p0) (fun _ => ?_)
      refine sn_goto (y := m_X13_readLine) (pc := 45) (tgt := 53) dX13_readLine_45 (by decide) ?_
      exact sn_return rfl dX13_readLine_53
    refine sn_aload_n (y := m_X13_readLine) (pc := 25) dX13_readLine_25 rfl ?_
    refine sn_invV (y := m_X13_readLine) (pc := 26) ca_11 (av := []) (o := p0) (st := []) dX13_readLine_26 lk_X13_243 im_X13_readEquation se_X13_readEquation rfl rfl rfl rfl ⟨by decide, by decide⟩ (c_X13_readEquation cx.1 p0) (fun _ => ?_)
    refine sn_goto (y := m_X13_readLine) (pc := 29) (tgt := 53) dX13_readLine_29 (by decide) ?_
    exact sn_return rfl dX13_readLine_53
  refine sn_aload_n (y := m_X13_readLine) (pc := 9) dX13_readLine_9 rfl ?_
  refine sn_invV (y := m_X13_readLine) (pc := 10) ca_11 (av := []) (o := p0) (st := []) dX13_readLine_10 lk_X13_240 im_X13_readFieldLine se_X13_readFieldLine rfl rfl rfl rfl ⟨by decide, by decide⟩ (c_X13_readFieldLine cx.1 p0) (fun _ => ?_)
  refine sn_goto (y := m_X13_readLine) (pc := 13) (tgt := 53) dX13_readLine_13 (by decide) ?_
  exact sn_return rfl dX13_readLine_53
set_option maxRecDepth 100000 in
theorem c_X13_readLine (g : Gl) (p0 : (Option Nat)) : Cn g m_X13_readLine eV [vA p0] (mCk 11 p0 (f_X13_readLine p0)) := cn_of_sn (by decide +kernel) rfl (fun _ => rfl) rfl (fun _ _ => sn_ck (s_X13_readLine p0))
/-! X13_readBook -/
def f_X13_readBook_j33 (x0 : (Option Nat)) : Mo Unit :=
  mBd (mGetA 11 4 x0) (fun r2 => mBd (mGetI 9 0 r2) (fun r3 => (if ¬ r3 = 0 then mRt () else mBd (mCk 11 x0 (f_X13_wrong x0 (6 : Int32))) (fun _ => mRt ()))))
set_option maxRecDepth 100000 in
theorem s_X13_readBook_j33 {cx : CX} (x0 : (Option Nat)) : Sn cx m_X13_readBook eV 33 [(0, vA x0)] [] (f_X13_readBook_j33 x0) := by
  refine sn_aload_n (y := m_X13_readBook) (pc := 33) dX13_readBook_33 rfl ?_
  refine sn_getA (y := m_X13_readBook) (pc := 34) ca_11 rfl fk_X13_205 (fun _ _ _ => rfl) dX13_readBook_34 (fun r2 => ?_)
  refine sn_getI (y := m_X13_readBook) (pc := 37) ca_9 rfl fk_X13_237 (fun _ _ _ => rfl) dX13_readBook_37 (fun r3 => ?_)
  refine sn_if_ne (y := m_X13_readBook) (pc := 40) (tgt := 49) dX13_readBook_40 (by decide) (fun _ => ?_) (fun _ => ?_)
  · exact sn_return rfl dX13_readBook_49
  refine sn_aload_n (y := m_X13_readBook) (pc := 43) dX13_readBook_43 rfl ?_
  refine sn_bipush (y := m_X13_readBook) (pc := 44) dX13_readBook_44 kc_bipush_6 ?_
  refine sn_invV (y := m_X13_readBook) (pc := 46) ca_11 (av := [vI (6 : Int32)]) (o := x0) (st := []) dX13_readBook_46 lk_X13_164 im_X13_wrong se_X13_wrong rfl rfl rfl rfl ⟨by decide, by decide⟩ (c_X13_wrong cx.1 x0 (6 : Int32)) (fun _ => ?_)
  exact sn_return rfl dX13_readBook_49
def f_X13_readBook_b2 (x0 : (Option Nat)) (k2 : Int32 → Mo Unit) (x1 : Int32) : Mo Unit :=
  (if x1 = 0 then mBd (mGetI 11 11 x0) (fun r1 => (if r1 = (1 : Int32) then f_X13_readBook_j33 x0 else mBd (mCk 11 x0 (f_X13_wrong x0 (1 : Int32))) (fun _ => f_X13_readBook_j33 x0))) else mBd (mCk 11 x0 (f_X13_readLine x0)) (fun _ => mBd (mCk 11 x0 (f_X13_eatsSign x0 (59 : Int32))) (fun r4 => k2 r4)))
def f_X13_readBook_l2 (x0 : (Option Nat)) : Int32 → Mo Unit := lq1 (f_X13_readBook_b2 x0) fuel
set_option maxRecDepth 100000 in
theorem s_X13_readBook_b2 {cx : CX} (x0 : (Option Nat)) {k2 : Int32 → Mo Unit} (hk2 : ∀ (z1 : Int32), Sn cx m_X13_readBook eV 2 [(1, vI z1), (0, vA x0)] [] (k2 z1)) (x1 : Int32) : Sn cx m_X13_readBook eV 2 [(1, vI x1), (0, vA x0)] [] (f_X13_readBook_b2 x0 k2 x1) := by
  refine sn_iload_n (y := m_X13_readBook) (pc := 2) dX13_readBook_2 rfl ?_
  refine sn_if_eq (y := m_X13_readBook) (pc := 3) (tgt := 20) dX13_readBook_3 (by decide) (fun _ => ?_) (fun _ => ?_)
  · refine sn_aload_n (y := m_X13_readBook) (pc := 20) dX13_readBook_20 rfl ?_
    refine sn_getI (y := m_X13_readBook) (pc := 21) ca_11 rfl fk_X13_111 (fun _ _ _ => rfl) dX13_readBook_21 (fun r1 => ?_)
    refine sn_iconst (y := m_X13_readBook) (pc := 24) dX13_readBook_24 kc_iconst_1 ?_
    refine sn_icmp_eq (y := m_X13_readBook) (pc := 25) (tgt := 33) dX13_readBook_25 (by decide) (fun _ => ?_) (fun _ => ?_)
    · exact sn_sub rfl (s_X13_readBook_j33 x0)
    refine sn_aload_n (y := m_X13_readBook) (pc := 28) dX13_readBook_28 rfl ?_
    refine sn_iconst (y := m_X13_readBook) (pc := 29) dX13_readBook_29 kc_iconst_1 ?_
    refine sn_invV (y := m_X13_readBook) (pc := 30) ca_11 (av := [vI (1 : Int32)]) (o := x0) (st := []) dX13_readBook_30 lk_X13_164 im_X13_wrong se_X13_wrong rfl rfl rfl rfl ⟨by decide, by decide⟩ (c_X13_wrong cx.1 x0 (1 : Int32)) (fun _ => ?_)
    exact sn_sub rfl (s_X13_readBook_j33 x0)
  refine sn_aload_n (y := m_X13_readBook) (pc := 6) dX13_readBook_6 rfl ?_
  refine sn_invV (y := m_X13_readBook) (pc := 7) ca_11 (av := []) (o := x0) (st := []) dX13_readBook_7 lk_X13_231 im_X13_readLine se_X13_readLine rfl rfl rfl rfl ⟨by decide, by decide⟩ (c_X13_readLine cx.1 x0) (fun _ => ?_)
  refine sn_aload_n (y := m_X13_readBook) (pc := 10) dX13_readBook_10 rfl ?_
  refine sn_bipush (y := m_X13_readBook) (pc := 11) dX13_readBook_11 kc_bipush_59 ?_
  refine sn_invV (y := m_X13_readBook) (pc := 13) ca_11 (av := [vI (59 : Int32)]) (o := x0) (st := []) dX13_readBook_13 lk_X13_234 im_X13_eatsSign se_X13_eatsSign rfl rfl rfl rfl ⟨by decide, by decide⟩ (c_X13_eatsSign cx.1 x0 (59 : Int32)) (fun r4 => ?_)
  refine sn_istore_n (y := m_X13_readBook) (pc := 16) dX13_readBook_16 rfl ?_
  refine sn_goto (y := m_X13_readBook) (pc := 17) (tgt := 2) dX13_readBook_17 (by decide) ?_
  exact sn_sub rfl (hk2 r4)
set_option maxRecDepth 100000 in
theorem s_X13_readBook_l2 {cx : CX} (x0 : (Option Nat)) (x1 : Int32) : Sn cx m_X13_readBook eV 2 [(1, vI x1), (0, vA x0)] [] (f_X13_readBook_l2 x0 x1) :=
  sn_lq1 (L := fun x1 => [(1, vI x1), (0, vA x0)]) (fun k hk x1 => s_X13_readBook_b2 x0 hk x1) fuel x1
def f_X13_readBook (p0 : (Option Nat)) : Mo Unit :=
  f_X13_readBook_l2 p0 (1 : Int32)
set_option maxRecDepth 100000 in
theorem s_X13_readBook {cx : CX} (p0 : (Option Nat)) : Sn cx m_X13_readBook eV 0 [(0, vA p0)] [] (f_X13_readBook p0) := by
  refine sn_iconst (y := m_X13_readBook) (pc := 0) dX13_readBook_0 kc_iconst_1 ?_
  refine sn_istore_n (y := m_X13_readBook) (pc := 1) dX13_readBook_1 rfl ?_
  exact sn_sub rfl (s_X13_readBook_l2 p0 (1 : Int32))
set_option maxRecDepth 100000 in
theorem c_X13_readBook (g : Gl) (p0 : (Option Nat)) : Cn g m_X13_readBook eV [vA p0] (mCk 11 p0 (f_X13_readBook p0)) := cn_of_sn (by decide +kernel) rfl (fun _ => rfl) rfl (fun _ _ => sn_ck (s_X13_readBook p0))
/-! X13_feed -/
def f_X13_feed_j76 (k23 : Int32 → Mo Int32) (x0 : (Option Nat)) (x1 : Int32) (x2 : Int32) (x3 : Int32) (x4 : Int32) (x5 : Int32) (x6 : Int32) (s0 : Int32) : Mo Int32 :=
  mBd (mGetA 11 7 x0) (fun r3 => mBd (mGetI 11 8 x0) (fun r4 => mBd (mStB r3 r4 ((s0 >>> (((24 : Int32) - ((8 : Int32) * (irem x6 (4 : Int32)))) &&& 31)).toInt8.toInt32)) (fun _ => mBd (mGetI 11 8 x0) (fun r5 => mBd (mPutI 11 8 x0 (r5 + (1 : Int32))) (fun _ => k23 (x6 + 1))))))
set_option maxRecDepth 100000 in
theorem s_X13_feed_j76 {cx : CX} {k23 : Int32 → Mo Int32} (x0 : (Option Nat)) (x1 : Int32) (x2 : Int32) (x3 : Int32) (x4 : Int32) (x5 : Int32) (x6 : Int32) (s0 : Int32) (hk23 : ∀ (z6 : Int32), Sn cx m_X13_feed eI 23 [(6, vI z6), (0, vA x0), (1, vI x1), (2, vI x2), (3, vI x3), (4, vI x4), (5, vI x5)] [] (k23 z6)) : Sn cx m_X13_feed eI 76 [(0, vA x0), (1, vI x1), (2, vI x2), (3, vI x3), (4, vI x4), (5, vI x5), (6, vI x6)] [vI s0] (f_X13_feed_j76 k23 x0 x1 x2 x3 x4 x5 x6 s0) := by
  refine sn_istore (y := m_X13_feed) (pc := 76) dX13_feed_76 rfl ?_
  refine sn_aload_n (y := m_X13_feed) (pc := 78) dX13_feed_78 rfl ?_
  refine sn_getA (y := m_X13_feed) (pc := 79) ca_11 rfl fk_X13_20 (fun _ _ _ => rfl) dX13_feed_79 (fun r3 => ?_)
  refine sn_aload_n (y := m_X13_feed) (pc := 82) dX13_feed_82 rfl ?_
  refine sn_getI (y := m_X13_feed) (pc := 83) ca_11 rfl fk_X13_362 (fun _ _ _ => rfl) dX13_feed_83 (fun r4 => ?_)
  refine sn_iload (y := m_X13_feed) (pc := 86) dX13_feed_86 rfl ?_
  refine sn_bipush (y := m_X13_feed) (pc := 88) dX13_feed_88 kc_bipush_24 ?_
  refine sn_bipush (y := m_X13_feed) (pc := 90) dX13_feed_90 kc_bipush_8 ?_
  refine sn_iload (y := m_X13_feed) (pc := 92) dX13_feed_92 rfl ?_
  refine sn_iconst (y := m_X13_feed) (pc := 94) dX13_feed_94 kc_iconst_4 ?_
  refine sn_iremC (y := m_X13_feed) (pc := 95) (by decide) dX13_feed_95 ?_
  refine sn_imul (y := m_X13_feed) (pc := 96) dX13_feed_96 ?_
  refine sn_isub (y := m_X13_feed) (pc := 97) dX13_feed_97 ?_
  refine sn_ishr (y := m_X13_feed) (pc := 98) dX13_feed_98 ?_
  refine sn_i2b (y := m_X13_feed) (pc := 99) dX13_feed_99 ?_
  refine sn_bastore (y := m_X13_feed) (pc := 100) dX13_feed_100 ?_
  refine sn_aload_n (y := m_X13_feed) (pc := 101) dX13_feed_101 rfl ?_
  refine sn_dup (y := m_X13_feed) (pc := 102) rfl dX13_feed_102 ?_
  refine sn_getI (y := m_X13_feed) (pc := 103) ca_11 rfl fk_X13_362 (fun _ _ _ => rfl) dX13_feed_103 (fun r5 => ?_)
  refine sn_iconst (y := m_X13_feed) (pc := 106) dX13_feed_106 kc_iconst_1 ?_
  refine sn_iadd (y := m_X13_feed) (pc := 107) dX13_feed_107 ?_
  refine sn_putI (y := m_X13_feed) (pc := 108) ca_11 rfl fk_X13_362 (Or.inl rfl) rfl dX13_feed_108 ?_
  refine sn_iinc (y := m_X13_feed) (pc := 111) (v := x6 + 1) dX13_feed_111 rfl (by rfl) rfl ?_
  refine sn_goto (y := m_X13_feed) (pc := 114) (tgt := 23) dX13_feed_114 (by decide) ?_
  exact sn_sub rfl (hk23 (x6 + 1))
def f_X13_feed_b23 (x0 : (Option Nat)) (x1 : Int32) (x2 : Int32) (x3 : Int32) (x4 : Int32) (x5 : Int32) (k23 : Int32 → Mo Int32) (x6 : Int32) : Mo Int32 :=
  (if x6 ≥ (20 : Int32) then mBd (mGetI 11 8 x0) (fun r2 => mRt r2) else (if x6 ≥ (4 : Int32) then (if x6 ≥ (8 : Int32) then (if x6 ≥ (12 : Int32) then (if x6 ≥ (16 : Int32) then f_X13_feed_j76 k23 x0 x1 x2 x3 x4 x5 x6 x5 else f_X13_feed_j76 k23 x0 x1 x2 x3 x4 x5 x6 x4) else f_X13_feed_j76 k23 x0 x1 x2 x3 x4 x5 x6 x3) else f_X13_feed_j76 k23 x0 x1 x2 x3 x4 x5 x6 x2) else f_X13_feed_j76 k23 x0 x1 x2 x3 x4 x5 x6 x1))
def f_X13_feed_l23 (x0 : (Option Nat)) (x1 : Int32) (x2 : Int32) (x3 : Int32) (x4 : Int32) (x5 : Int32) : Int32 → Mo Int32 := lq1 (f_X13_feed_b23 x0 x1 x2 x3 x4 x5) fuel
set_option maxRecDepth 100000 in
theorem s_X13_feed_b23 {cx : CX} (x0 : (Option Nat)) (x1 : Int32) (x2 : Int32) (x3 : Int32) (x4 : Int32) (x5 : Int32) {k23 : Int32 → Mo Int32} (hk23 : ∀ (z6 : Int32), Sn cx m_X13_feed eI 23 [(6, vI z6), (0, vA x0), (1, vI x1), (2, vI x2), (3, vI x3), (4, vI x4), (5, vI x5)] [] (k23 z6)) (x6 : Int32) : Sn cx m_X13_feed eI 23 [(6, vI x6), (0, vA x0), (1, vI x1), (2, vI x2), (3, vI x3), (4, vI x4), (5, vI x5)] [] (f_X13_feed_b23 x0 x1 x2 x3 x4 x5 k23 x6) := by
  refine sn_iload (y := m_X13_feed) (pc := 23) dX13_feed_23 rfl ?_
  refine sn_bipush (y := m_X13_feed) (pc := 25) dX13_feed_25 kc_bipush_20 ?_
  refine sn_icmp_ge (y := m_X13_feed) (pc := 27) (tgt := 117) dX13_feed_27 (by decide) (fun _ => ?_) (fun _ => ?_)
  · refine sn_aload_n (y := m_X13_feed) (pc := 117) dX13_feed_117 rfl ?_
    refine sn_getI (y := m_X13_feed) (pc := 118) ca_11 rfl fk_X13_362 (fun _ _ _ => rfl) dX13_feed_118 (fun r2 => ?_)
    exact sn_ireturn rfl dX13_feed_121
  refine sn_iload (y := m_X13_feed) (pc := 30) dX13_feed_30 rfl ?_
  refine sn_iconst (y := m_X13_feed) (pc := 32) dX13_feed_32 kc_iconst_4 ?_
  refine sn_icmp_ge (y := m_X13_feed) (pc := 33) (tgt := 40) dX13_feed_33 (by decide) (fun _ => ?_) (fun _ => ?_)
  · refine sn_iload (y := m_X13_feed) (pc := 40) dX13_feed_40 rfl ?_
    refine sn_bipush (y := m_X13_feed) (pc := 42) dX13_feed_42 kc_bipush_8 ?_
    refine sn_icmp_ge (y := m_X13_feed) (pc := 44) (tgt := 51) dX13_feed_44 (by decide) (fun _ => ?_) (fun _ => ?_)
    · refine sn_iload (y := m_X13_feed) (pc := 51) dX13_feed_51 rfl ?_
      refine sn_bipush (y := m_X13_feed) (pc := 53) dX13_feed_53 kc_bipush_12 ?_
      refine sn_icmp_ge (y := m_X13_feed) (pc := 55) (tgt := 62) dX13_feed_55 (by decide) (fun _ => ?_) (fun _ => ?_)
      · refine sn_iload (y := m_X13_feed) (pc := 62) dX13_feed_62 rfl ?_
        refine sn_bipush (y := m_X13_feed) (pc := 64) dX13_feed_64 kc_bipush_16 ?_
        refine sn_icmp_ge (y := m_X13_feed) (pc := 66) (tgt := 74) dX13_feed_66 (by decide) (fun _ => ?_) (fun _ => ?_)
        · refine sn_iload (y := m_X13_feed) (pc := 74) dX13_feed_74 rfl ?_
          exact sn_sub rfl (s_X13_feed_j76 x0 x1 x2 x3 x4 x5 x6 x5 hk23)
        refine sn_iload (y := m_X13_feed) (pc := 69) dX13_feed_69 rfl ?_
        refine sn_goto (y := m_X13_feed) (pc := 71) (tgt := 76) dX13_feed_71 (by decide) ?_
        exact sn_sub rfl (s_X13_feed_j76 x0 x1 x2 x3 x4 x5 x6 x4 hk23)
      refine sn_iload_n (y := m_X13_feed) (pc := 58) dX13_feed_58 rfl ?_
      refine sn_goto (y := m_X13_feed) (pc := 59) (tgt := 76) dX13_feed_59 (by decide) ?_
      exact sn_sub rfl (s_X13_feed_j76 x0 x1 x2 x3 x4 x5 x6 x3 hk23)
    refine sn_iload_n (y := m_X13_feed) (pc := 47) dX13_feed_47 rfl ?_
    refine sn_goto (y := m_X13_feed) (pc := 48) (tgt := 76) dX13_feed_48 (by decide) ?_
    exact sn_sub rfl (s_X13_feed_j76 x0 x1 x2 x3 x4 x5 x6 x2 hk23)
  refine sn_iload_n (y := m_X13_feed) (pc := 36) dX13_feed_36 rfl ?_
  refine sn_goto (y := m_X13_feed) (pc := 37) (tgt := 76) dX13_feed_37 (by decide) ?_
  exact sn_sub rfl (s_X13_feed_j76 x0 x1 x2 x3 x4 x5 x6 x1 hk23)
set_option maxRecDepth 100000 in
theorem s_X13_feed_l23 {cx : CX} (x0 : (Option Nat)) (x1 : Int32) (x2 : Int32) (x3 : Int32) (x4 : Int32) (x5 : Int32) (x6 : Int32) : Sn cx m_X13_feed eI 23 [(6, vI x6), (0, vA x0), (1, vI x1), (2, vI x2), (3, vI x3), (4, vI x4), (5, vI x5)] [] (f_X13_feed_l23 x0 x1 x2 x3 x4 x5 x6) :=
  sn_lq1 (L := fun x6 => [(6, vI x6), (0, vA x0), (1, vI x1), (2, vI x2), (3, vI x3), (4, vI x4), (5, vI x5)]) (fun k hk x6 => s_X13_feed_b23 x0 x1 x2 x3 x4 x5 hk x6) fuel x6
def f_X13_feed (p0 : (Option Nat)) (p1 : Int32) (p2 : Int32) (p3 : Int32) (p4 : Int32) (p5 : Int32) : Mo Int32 :=
  mBd (mPutI 11 0 p0 (0 : Int32)) (fun _ => mBd (mGetI 11 8 p0) (fun r1 => (if (r1 + (20 : Int32)) ≤ (900 : Int32) then f_X13_feed_l23 p0 p1 p2 p3 p4 p5 (0 : Int32) else mRt (-1 : Int32))))
set_option maxRecDepth 100000 in
theorem s_X13_feed {cx : CX} (p0 : (Option Nat)) (p1 : Int32) (p2 : Int32) (p3 : Int32) (p4 : Int32) (p5 : Int32) : Sn cx m_X13_feed eI 0 [(0, vA p0), (1, vI p1), (2, vI p2), (3, vI p3), (4, vI p4), (5, vI p5)] [] (f_X13_feed p0 p1 p2 p3 p4 p5) := by
  refine sn_aload_n (y := m_X13_feed) (pc := 0) dX13_feed_0 rfl ?_
  refine sn_iconst (y := m_X13_feed) (pc := 1) dX13_feed_1 kc_iconst_0 ?_
  refine sn_putI (y := m_X13_feed) (pc := 2) ca_11 rfl fk_X13_46 (Or.inl rfl) rfl dX13_feed_2 ?_
  refine sn_aload_n (y := m_X13_feed) (pc := 5) dX13_feed_5 rfl ?_
  refine sn_getI (y := m_X13_feed) (pc := 6) ca_11 rfl fk_X13_362 (fun _ _ _ => rfl) dX13_feed_6 (fun r1 => ?_)
  refine sn_bipush (y := m_X13_feed) (pc := 9) dX13_feed_9 kc_bipush_20 ?_
  refine sn_iadd (y := m_X13_feed) (pc := 11) dX13_feed_11 ?_
  refine sn_sipush (y := m_X13_feed) (pc := 12) dX13_feed_12 kc_sipush_900 ?_
  refine sn_icmp_le (y := m_X13_feed) (pc := 15) (tgt := 20) dX13_feed_15 (by decide) (fun _ => ?_) (fun _ => ?_)
  · refine sn_iconst (y := m_X13_feed) (pc := 20) dX13_feed_20 kc_iconst_0 ?_
    refine sn_istore (y := m_X13_feed) (pc := 21) dX13_feed_21 rfl ?_
    exact sn_sub rfl (s_X13_feed_l23 p0 p1 p2 p3 p4 p5 (0 : Int32))
  refine sn_iconst (y := m_X13_feed) (pc := 18) dX13_feed_18 kc_iconst_m1 ?_
  exact sn_ireturn rfl dX13_feed_19
set_option maxRecDepth 100000 in
theorem c_X13_feed (g : Gl) (p0 : (Option Nat)) (p1 : Int32) (p2 : Int32) (p3 : Int32) (p4 : Int32) (p5 : Int32) : Cn g m_X13_feed eI [vA p0, vI p1, vI p2, vI p3, vI p4, vI p5] (mCk 11 p0 (f_X13_feed p0 p1 p2 p3 p4 p5)) := cn_of_sn (by decide +kernel) rfl (fun r => ⟨r, rfl⟩) rfl (fun _ _ => sn_ck (s_X13_feed p0 p1 p2 p3 p4 p5))
/-! X13_book -/
def f_X13_book_b99 (x0 : (Option Nat)) (k99 : Int32 → Mo Int32) (x2 : Int32) : Mo Int32 :=
  (if x2 ≥ (49 : Int32) then mBd (mPutI 11 28 x0 (0 : Int32)) (fun _ => mBd (mPutI 11 29 x0 (0 : Int32)) (fun _ => mBd (mPutI 11 30 x0 (0 : Int32)) (fun _ => mBd (mGetA 11 3 x0) (fun r6 => mBd (mGetI 9 0 r6) (fun r7 => mBd (mCk 11 x0 (f_X13_good x0 r7)) (fun r8 => mRt r8)))))) else mBd (mGetA 11 24 x0) (fun r9 => mBd (mStJ r9 x2 (0 : Int64)) (fun _ => k99 (x2 + 1))))
def f_X13_book_l99 (x0 : (Option Nat)) : Int32 → Mo Int32 := lq1 (f_X13_book_b99 x0) fuel
set_option maxRecDepth 100000 in
theorem s_X13_book_b99 {cx : CX} (x0 : (Option Nat)) {k99 : Int32 → Mo Int32} (hk99 : ∀ (z2 : Int32), Sn cx m_X13_book eI 99 [(2, vI z2), (0, vA x0)] [] (k99 z2)) (x2 : Int32) : Sn cx m_X13_book eI 99 [(2, vI x2), (0, vA x0)] [] (f_X13_book_b99 x0 k99 x2) := by
  refine sn_iload_n (y := m_X13_book) (pc := 99) dX13_book_99 rfl ?_
  refine sn_bipush (y := m_X13_book) (pc := 100) dX13_book_100 kc_bipush_49 ?_
  refine sn_icmp_ge (y := m_X13_book) (pc := 102) (tgt := 118) dX13_book_102 (by decide) (fun _ => ?_) (fun _ => ?_)
  · refine sn_aload_n (y := m_X13_book) (pc := 118) dX13_book_118 rfl ?_
    refine sn_iconst (y := m_X13_book) (pc := 119) dX13_book_119 kc_iconst_0 ?_
    refine sn_putI (y := m_X13_book) (pc := 120) ca_11 rfl fk_X13_372 (Or.inl rfl) rfl dX13_book_120 ?_
    refine sn_aload_n (y := m_X13_book) (pc := 123) dX13_book_123 rfl ?_
    refine sn_iconst (y := m_X13_book) (pc := 124) dX13_book_124 kc_iconst_0 ?_
    refine sn_putI (y := m_X13_book) (pc := 125) ca_11 rfl fk_X13_375 (Or.inl rfl) rfl dX13_book_125 ?_
    refine sn_aload_n (y := m_X13_book) (pc := 128) dX13_book_128 rfl ?_
    refine sn_iconst (y := m_X13_book) (pc := 129) dX13_book_129 kc_iconst_0 ?_
    refine sn_putI (y := m_X13_book) (pc := 130) ca_11 rfl fk_X13_378 (Or.inl rfl) rfl dX13_book_130 ?_
    refine sn_aload_n (y := m_X13_book) (pc := 133) dX13_book_133 rfl ?_
    refine sn_aload_n (y := m_X13_book) (pc := 134) dX13_book_134 rfl ?_
    refine sn_getA (y := m_X13_book) (pc := 135) ca_11 rfl fk_X13_369 (fun _ _ _ => rfl) dX13_book_135 (fun r6 => ?_)
    refine sn_getI (y := m_X13_book) (pc := 138) ca_9 rfl fk_X13_237 (fun _ _ _ => rfl) dX13_book_138 (fun r7 => ?_)
    refine sn_invV (y := m_X13_book) (pc := 141) ca_11 (av := [vI r7]) (o := x0) (st := []) dX13_book_141 lk_X13_56 im_X13_good se_X13_good rfl rfl rfl rfl ⟨by decide, by decide⟩ (c_X13_good cx.1 x0 r7) (fun r8 => ?_)
    exact sn_ireturn rfl dX13_book_144
  refine sn_aload_n (y := m_X13_book) (pc := 105) dX13_book_105 rfl ?_
  refine sn_getA (y := m_X13_book) (pc := 106) ca_11 rfl fk_X13_34 (fun _ _ _ => rfl) dX13_book_106 (fun r9 => ?_)
  refine sn_iload_n (y := m_X13_book) (pc := 109) dX13_book_109 rfl ?_
  refine sn_lconst (y := m_X13_book) (pc := 110) dX13_book_110 kc_lconst_0 ?_
  refine sn_lastore (y := m_X13_book) (pc := 111) dX13_book_111 ?_
  refine sn_iinc (y := m_X13_book) (pc := 112) (v := x2 + 1) dX13_book_112 rfl (by rfl) rfl ?_
  refine sn_goto (y := m_X13_book) (pc := 115) (tgt := 99) dX13_book_115 (by decide) ?_
  exact sn_sub rfl (hk99 (x2 + 1))
set_option maxRecDepth 100000 in
theorem s_X13_book_l99 {cx : CX} (x0 : (Option Nat)) (x2 : Int32) : Sn cx m_X13_book eI 99 [(2, vI x2), (0, vA x0)] [] (f_X13_book_l99 x0 x2) :=
  sn_lq1 (L := fun x2 => [(2, vI x2), (0, vA x0)]) (fun k hk x2 => s_X13_book_b99 x0 hk x2) fuel x2
def f_X13_book (p0 : (Option Nat)) (p1 : Int32) : Mo Int32 :=
  mBd (mPutI 11 0 p0 (0 : Int32)) (fun _ => (if p1 < 0 then mBd (mCk 11 p0 (f_X13_refused p0 (2 : Int32))) (fun r1 => mRt r1) else mBd (mGetI 11 8 p0) (fun r2 => (if p1 ≤ r2 then mBd (mPutI 11 9 p0 p1) (fun _ => mBd (mPutI 11 8 p0 (0 : Int32)) (fun _ => mBd (mPutI 11 10 p0 (0 : Int32)) (fun _ => mBd (mPutI 11 15 p0 (0 : Int32)) (fun _ => mBd (mNew 9) (fun r3 => mBd (mCk 9 r3 (f_X11_init r3)) (fun _ => mBd (mPutA 11 4 p0 r3) (fun _ => mBd (mPutI 11 11 p0 (0 : Int32)) (fun _ => mBd (mCk 11 p0 (f_X13_goesOn p0)) (fun _ => mBd (mCk 11 p0 (f_X13_readBook p0)) (fun _ => mBd (mGetI 11 15 p0) (fun r4 => (if r4 ≤ 0 then mBd (mGetA 11 4 p0) (fun r5 => mBd (mPutA 11 3 p0 r5) (fun _ => f_X13_book_l99 p0 (0 : Int32))) else mBd (mPutI 11 1 p0 (4 : Int32)) (fun _ => mBd (mGetI 11 16 p0) (fun r10 => mBd (mPutI 11 2 p0 r10) (fun _ => mRt (-1 : Int32)))))))))))))))) else mBd (mCk 11 p0 (f_X13_refused p0 (2 : Int32))) (fun r11 => mRt r11)))))
set_option maxRecDepth 100000 in
theorem s_X13_book {cx : CX} (p0 : (Option Nat)) (p1 : Int32) : Sn cx m_X13_book eI 0 [(0, vA p0), (1, vI p1)] [] (f_X13_book p0 p1) := by
  refine sn_aload_n (y := m_X13_book) (pc := 0) dX13_book_0 rfl ?_
  refine sn_iconst (y := m_X13_book) (pc := 1) dX13_book_1 kc_iconst_0 ?_
  refine sn_putI (y := m_X13_book) (pc := 2) ca_11 rfl fk_X13_46 (Or.inl rfl) rfl dX13_book_2 ?_
  refine sn_iload_n (y := m_X13_book) (pc := 5) dX13_book_5 rfl ?_
  refine sn_if_lt (y := m_X13_book) (pc := 6) (tgt := 17) dX13_book_6 (by decide) (fun _ => ?_) (fun _ => ?_)
  · refine sn_aload_n (y := m_X13_book) (pc := 17) dX13_book_17 rfl ?_
    refine sn_iconst (y := m_X13_book) (pc := 18) dX13_book_18 kc_iconst_2 ?_
    refine sn_invV (y := m_X13_book) (pc := 19) ca_11 (av := [vI (2 : Int32)]) (o := p0) (st := []) dX13_book_19 lk_X13_52 im_X13_refused se_X13_refused rfl rfl rfl rfl ⟨by decide, by decide⟩ (c_X13_refused cx.1 p0 (2 : Int32)) (fun r1 => ?_)
    exact sn_ireturn rfl dX13_book_22
  refine sn_iload_n (y := m_X13_book) (pc := 9) dX13_book_9 rfl ?_
  refine sn_aload_n (y := m_X13_book) (pc := 10) dX13_book_10 rfl ?_
  refine sn_getI (y := m_X13_book) (pc := 11) ca_11 rfl fk_X13_362 (fun _ _ _ => rfl) dX13_book_11 (fun r2 => ?_)
  refine sn_icmp_le (y := m_X13_book) (pc := 14) (tgt := 23) dX13_book_14 (by decide) (fun _ => ?_) (fun _ => ?_)
  · refine sn_aload_n (y := m_X13_book) (pc := 23) dX13_book_23 rfl ?_
    refine sn_iload_n (y := m_X13_book) (pc := 24) dX13_book_24 rfl ?_
    refine sn_putI (y := m_X13_book) (pc := 25) ca_11 rfl fk_X13_98 (Or.inl rfl) rfl dX13_book_25 ?_
    refine sn_aload_n (y := m_X13_book) (pc := 28) dX13_book_28 rfl ?_
    refine sn_iconst (y := m_X13_book) (pc := 29) dX13_book_29 kc_iconst_0 ?_
    refine sn_putI (y := m_X13_book) (pc := 30) ca_11 rfl fk_X13_362 (Or.inl rfl) rfl dX13_book_30 ?_
    refine sn_aload_n (y := m_X13_book) (pc := 33) dX13_book_33 rfl ?_
    refine sn_iconst (y := m_X13_book) (pc := 34) dX13_book_34 kc_iconst_0 ?_
    refine sn_putI (y := m_X13_book) (pc := 35) ca_11 rfl fk_X13_114 (Or.inl rfl) rfl dX13_book_35 ?_
    refine sn_aload_n (y := m_X13_book) (pc := 38) dX13_book_38 rfl ?_
    refine sn_iconst (y := m_X13_book) (pc := 39) dX13_book_39 kc_iconst_0 ?_
    refine sn_putI (y := m_X13_book) (pc := 40) ca_11 rfl fk_X13_144 (Or.inl rfl) rfl dX13_book_40 ?_
    refine sn_aload_n (y := m_X13_book) (pc := 43) dX13_book_43 rfl ?_
    refine sn_new (y := m_X13_book) (pc := 44) ca_9 nk_X13_210 dX13_book_44 (fun r3 => ?_)
    refine sn_dup (y := m_X13_book) (pc := 47) rfl dX13_book_47 ?_
    refine sn_invI (y := m_X13_book) (pc := 48) (c := 9) (av := []) (o := r3) (st := [vA r3, vA p0]) dX13_book_48 (Or.inr lk_X13_365) im_X11_init rfl rfl rfl rfl rfl ⟨by decide, by decide⟩ (c_X11_init cx.1 r3) (fun _ => ?_)
    refine sn_putA (y := m_X13_book) (pc := 51) ca_11 rfl fk_X13_205 (Or.inl rfl) rfl dX13_book_51 ?_
    refine sn_aload_n (y := m_X13_book) (pc := 54) dX13_book_54 rfl ?_
    refine sn_iconst (y := m_X13_book) (pc := 55) dX13_book_55 kc_iconst_0 ?_
    refine sn_putI (y := m_X13_book) (pc := 56) ca_11 rfl fk_X13_111 (Or.inl rfl) rfl dX13_book_56 ?_
    refine sn_aload_n (y := m_X13_book) (pc := 59) dX13_book_59 rfl ?_
    refine sn_invV (y := m_X13_book) (pc := 60) ca_11 (av := []) (o := p0) (st := []) dX13_book_60 lk_X13_158 im_X13_goesOn se_X13_goesOn rfl rfl rfl rfl ⟨by decide, by decide⟩ (c_X13_goesOn cx.1 p0) (fun _ => ?_)
    refine sn_aload_n (y := m_X13_book) (pc := 63) dX13_book_63 rfl ?_
    refine sn_invV (y := m_X13_book) (pc := 64) ca_11 (av := []) (o := p0) (st := []) dX13_book_64 lk_X13_366 im_X13_readBook se_X13_readBook rfl rfl rfl rfl ⟨by decide, by decide⟩ (c_X13_readBook cx.1 p0) (fun _ => ?_)
    refine sn_aload_n (y := m_X13_book) (pc := 67) dX13_book_67 rfl ?_
    refine sn_getI (y := m_X13_book) (pc := 68) ca_11 rfl fk_X13_144 (fun _ _ _ => rfl) dX13_book_68 (fun r4 => ?_)
    refine sn_if_le (y := m_X13_book) (pc := 71) (tgt := 89) dX13_book_71 (by decide) (fun _ => ?_) (fun _ => ?_)
    · refine sn_aload_n (y := m_X13_book) (pc := 89) dX13_book_89 rfl ?_
      refine sn_aload_n (y := m_X13_book) (pc := 90) dX13_book_90 rfl ?_
      refine sn_getA (y := m_X13_book) (pc := 91) ca_11 rfl fk_X13_205 (fun _ _ _ => rfl) dX13_book_91 (fun r5 => ?_)
      refine sn_putA (y := m_X13_book) (pc := 94) ca_11 rfl fk_X13_369 (Or.inl rfl) rfl dX13_book_94 ?_
      refine sn_iconst (y := m_X13_book) (pc := 97) dX13_book_97 kc_iconst_0 ?_
      refine sn_istore_n (y := m_X13_book) (pc := 98) dX13_book_98 rfl ?_
      exact sn_sub rfl (s_X13_book_l99 p0 (0 : Int32))
    refine sn_aload_n (y := m_X13_book) (pc := 74) dX13_book_74 rfl ?_
    refine sn_iconst (y := m_X13_book) (pc := 75) dX13_book_75 kc_iconst_4 ?_
    refine sn_putI (y := m_X13_book) (pc := 76) ca_11 rfl fk_X13_49 (Or.inl rfl) rfl dX13_book_76 ?_
    refine sn_aload_n (y := m_X13_book) (pc := 79) dX13_book_79 rfl ?_
    refine sn_aload_n (y := m_X13_book) (pc := 80) dX13_book_80 rfl ?_
    refine sn_getI (y := m_X13_book) (pc := 81) ca_11 rfl fk_X13_147 (fun _ _ _ => rfl) dX13_book_81 (fun r10 => ?_)
    refine sn_putI (y := m_X13_book) (pc := 84) ca_11 rfl fk_X13_9 (Or.inl rfl) rfl dX13_book_84 ?_
    refine sn_iconst (y := m_X13_book) (pc := 87) dX13_book_87 kc_iconst_m1 ?_
    exact sn_ireturn rfl dX13_book_88
  refine sn_aload_n (y := m_X13_book) (pc := 17) dX13_book_17 rfl ?_
  refine sn_iconst (y := m_X13_book) (pc := 18) dX13_book_18 kc_iconst_2 ?_
  refine sn_invV (y := m_X13_book) (pc := 19) ca_11 (av := [vI (2 : Int32)]) (o := p0) (st := []) dX13_book_19 lk_X13_52 im_X13_refused se_X13_refused rfl rfl rfl rfl ⟨by decide, by decide⟩ (c_X13_refused cx.1 p0 (2 : Int32)) (fun r11 => ?_)
  exact sn_ireturn rfl dX13_book_22
set_option maxRecDepth 100000 in
theorem c_X13_book (g : Gl) (p0 : (Option Nat)) (p1 : Int32) : Cn g m_X13_book eI [vA p0, vI p1] (mCk 11 p0 (f_X13_book p0 p1)) := cn_of_sn (by decide +kernel) rfl (fun r => ⟨r, rfl⟩) rfl (fun _ _ => sn_ck (s_X13_book p0 p1))
/-! X13_fault -/
def f_X13_fault (p0 : (Option Nat)) : Mo Int32 :=
  mBd (mPutI 11 0 p0 (0 : Int32)) (fun _ => mBd (mGetI 11 15 p0) (fun r1 => mRt r1))
set_option maxRecDepth 100000 in
theorem s_X13_fault {cx : CX} (p0 : (Option Nat)) : Sn cx m_X13_fault eI 0 [(0, vA p0)] [] (f_X13_fault p0) := by
  refine sn_aload_n (y := m_X13_fault) (pc := 0) dX13_fault_0 rfl ?_
  refine sn_iconst (y := m_X13_fault) (pc := 1) dX13_fault_1 kc_iconst_0 ?_
  refine sn_putI (y := m_X13_fault) (pc := 2) ca_11 rfl fk_X13_46 (Or.inl rfl) rfl dX13_fault_2 ?_
  refine sn_aload_n (y := m_X13_fault) (pc := 5) dX13_fault_5 rfl ?_
  refine sn_getI (y := m_X13_fault) (pc := 6) ca_11 rfl fk_X13_144 (fun _ _ _ => rfl) dX13_fault_6 (fun r1 => ?_)
  exact sn_ireturn rfl dX13_fault_9
set_option maxRecDepth 100000 in
theorem c_X13_fault (g : Gl) (p0 : (Option Nat)) : Cn g m_X13_fault eI [vA p0] (mCk 11 p0 (f_X13_fault p0)) := cn_of_sn (by decide +kernel) rfl (fun r => ⟨r, rfl⟩) rfl (fun _ _ => sn_ck (s_X13_fault p0))
/-! X13_where -/
def f_X13_where (p0 : (Option Nat)) : Mo Int32 :=
  mBd (mPutI 11 0 p0 (0 : Int32)) (fun _ => mBd (mGetI 11 2 p0) (fun r1 => mRt r1))
set_option maxRecDepth 100000 in
theorem s_X13_where {cx : CX} (p0 : (Option Nat)) : Sn cx m_X13_where eI 0 [(0, vA p0)] [] (f_X13_where p0) := by
  refine sn_aload_n (y := m_X13_where) (pc := 0) dX13_where_0 rfl ?_
  refine sn_iconst (y := m_X13_where) (pc := 1) dX13_where_1 kc_iconst_0 ?_
  refine sn_putI (y := m_X13_where) (pc := 2) ca_11 rfl fk_X13_46 (Or.inl rfl) rfl dX13_where_2 ?_
  refine sn_aload_n (y := m_X13_where) (pc := 5) dX13_where_5 rfl ?_
  refine sn_getI (y := m_X13_where) (pc := 6) ca_11 rfl fk_X13_9 (fun _ _ _ => rfl) dX13_where_6 (fun r1 => ?_)
  exact sn_ireturn rfl dX13_where_9
set_option maxRecDepth 100000 in
theorem c_X13_where (g : Gl) (p0 : (Option Nat)) : Cn g m_X13_where eI [vA p0] (mCk 11 p0 (f_X13_where p0)) := cn_of_sn (by decide +kernel) rfl (fun r => ⟨r, rfl⟩) rfl (fun _ _ => sn_ck (s_X13_where p0))
/-! X13_isField -/
def f_X13_isField (p0 : (Option Nat)) (p1 : Int32) : Mo Int32 :=
  mBd (mGetA 11 3 p0) (fun r1 => (if r1 = none then mRt (0 : Int32) else (if p1 < 0 then mRt (0 : Int32) else mBd (mGetA 11 3 p0) (fun r2 => mBd (mGetI 9 0 r2) (fun r3 => (if p1 ≥ r3 then mRt (0 : Int32) else mRt (1 : Int32)))))))
set_option maxRecDepth 100000 in
theorem s_X13_isField {cx : CX} (p0 : (Option Nat)) (p1 : Int32) : Sn cx m_X13_isField eI 0 [(0, vA p0), (1, vI p1)] [] (f_X13_isField p0 p1) := by
  refine sn_aload_n (y := m_X13_isField) (pc := 0) dX13_isField_0 rfl ?_
  refine sn_getA (y := m_X13_isField) (pc := 1) ca_11 rfl fk_X13_369 (fun _ _ _ => rfl) dX13_isField_1 (fun r1 => ?_)
  refine sn_ifnull (y := m_X13_isField) (pc := 4) (tgt := 26) dX13_isField_4 (by decide) ?_ ?_
  · refine sn_iconst (y := m_X13_isField) (pc := 26) dX13_isField_26 kc_iconst_0 ?_
    exact sn_zreturnC (by decide) rfl dX13_isField_27
  refine sn_iload_n (y := m_X13_isField) (pc := 7) dX13_isField_7 rfl ?_
  refine sn_if_lt (y := m_X13_isField) (pc := 8) (tgt := 26) dX13_isField_8 (by decide) (fun _ => ?_) (fun _ => ?_)
  · refine sn_iconst (y := m_X13_isField) (pc := 26) dX13_isField_26 kc_iconst_0 ?_
    exact sn_zreturnC (by decide) rfl dX13_isField_27
  refine sn_iload_n (y := m_X13_isField) (pc := 11) dX13_isField_11 rfl ?_
  refine sn_aload_n (y := m_X13_isField) (pc := 12) dX13_isField_12 rfl ?_
  refine sn_getA (y := m_X13_isField) (pc := 13) ca_11 rfl fk_X13_369 (fun _ _ _ => rfl) dX13_isField_13 (fun r2 => ?_)
  refine sn_getI (y := m_X13_isField) (pc := 16) ca_9 rfl fk_X13_237 (fun _ _ _ => rfl) dX13_isField_16 (fun r3 => ?_)
  refine sn_icmp_ge (y := m_X13_isField) (pc := 19) (tgt := 26) dX13_isField_19 (by decide) (fun _ => ?_) (fun _ => ?_)
  · refine sn_iconst (y := m_X13_isField) (pc := 26) dX13_isField_26 kc_iconst_0 ?_
    exact sn_zreturnC (by decide) rfl dX13_isField_27
  refine sn_iconst (y := m_X13_isField) (pc := 22) dX13_isField_22 kc_iconst_1 ?_
  refine sn_goto (y := m_X13_isField) (pc := 23) (tgt := 27) dX13_isField_23 (by decide) ?_
  exact sn_zreturnC (by decide) rfl dX13_isField_27
set_option maxRecDepth 100000 in
theorem c_X13_isField (g : Gl) (p0 : (Option Nat)) (p1 : Int32) : Cn g m_X13_isField eI [vA p0, vI p1] (mCk 11 p0 (f_X13_isField p0 p1)) := cn_of_sn (by decide +kernel) rfl (fun r => ⟨r, rfl⟩) rfl (fun _ _ => sn_ck (s_X13_isField p0 p1))
/-! X13_isOrder -/
def f_X13_isOrder (p0 : (Option Nat)) (p1 : Int32) (p2 : Int32) : Mo Int32 :=
  mBd (mCk 11 p0 (f_X13_isField p0 p1)) (fun r1 => (if r1 = 0 then mRt (0 : Int32) else (if p2 < 0 then mRt (0 : Int32) else mBd (mGetA 11 3 p0) (fun r2 => mBd (mGetA 9 4 r2) (fun r3 => mBd (mLdA 7 r3 p1) (fun r4 => mBd (mGetI 10 1 r4) (fun r5 => (if p2 ≥ r5 then mRt (0 : Int32) else mRt (1 : Int32)))))))))
set_option maxRecDepth 100000 in
theorem s_X13_isOrder {cx : CX} (p0 : (Option Nat)) (p1 : Int32) (p2 : Int32) : Sn cx m_X13_isOrder eI 0 [(0, vA p0), (1, vI p1), (2, vI p2)] [] (f_X13_isOrder p0 p1 p2) := by
  refine sn_aload_n (y := m_X13_isOrder) (pc := 0) dX13_isOrder_0 rfl ?_
  refine sn_iload_n (y := m_X13_isOrder) (pc := 1) dX13_isOrder_1 rfl ?_
  refine sn_invV (y := m_X13_isOrder) (pc := 2) ca_11 (av := [vI p1]) (o := p0) (st := []) dX13_isOrder_2 lk_X13_381 im_X13_isField se_X13_isField rfl rfl rfl rfl ⟨by decide, by decide⟩ (c_X13_isField cx.1 p0 p1) (fun r1 => ?_)
  refine sn_if_eq (y := m_X13_isOrder) (pc := 5) (tgt := 32) dX13_isOrder_5 (by decide) (fun _ => ?_) (fun _ => ?_)
  · refine sn_iconst (y := m_X13_isOrder) (pc := 32) dX13_isOrder_32 kc_iconst_0 ?_
    exact sn_zreturnC (by decide) rfl dX13_isOrder_33
  refine sn_iload_n (y := m_X13_isOrder) (pc := 8) dX13_isOrder_8 rfl ?_
  refine sn_if_lt (y := m_X13_isOrder) (pc := 9) (tgt := 32) dX13_isOrder_9 (by decide) (fun _ => ?_) (fun _ => ?_)
  · refine sn_iconst (y := m_X13_isOrder) (pc := 32) dX13_isOrder_32 kc_iconst_0 ?_
    exact sn_zreturnC (by decide) rfl dX13_isOrder_33
  refine sn_iload_n (y := m_X13_isOrder) (pc := 12) dX13_isOrder_12 rfl ?_
  refine sn_aload_n (y := m_X13_isOrder) (pc := 13) dX13_isOrder_13 rfl ?_
  refine sn_getA (y := m_X13_isOrder) (pc := 14) ca_11 rfl fk_X13_369 (fun _ _ _ => rfl) dX13_isOrder_14 (fun r2 => ?_)
  refine sn_getA (y := m_X13_isOrder) (pc := 17) ca_9 rfl fk_X13_259 (fun _ _ _ => rfl) dX13_isOrder_17 (fun r3 => ?_)
  refine sn_iload_n (y := m_X13_isOrder) (pc := 20) dX13_isOrder_20 rfl ?_
  refine sn_aaload (y := m_X13_isOrder) (pc := 21) dX13_isOrder_21 (fun r4 => ?_)
  refine sn_getI (y := m_X13_isOrder) (pc := 22) ca_10 rfl fk_X13_59 (fun _ _ _ => rfl) dX13_isOrder_22 (fun r5 => ?_)
  refine sn_icmp_ge (y := m_X13_isOrder) (pc := 25) (tgt := 32) dX13_isOrder_25 (by decide) (fun _ => ?_) (fun _ => ?_)
  · refine sn_iconst (y := m_X13_isOrder) (pc := 32) dX13_isOrder_32 kc_iconst_0 ?_
    exact sn_zreturnC (by decide) rfl dX13_isOrder_33
  refine sn_iconst (y := m_X13_isOrder) (pc := 28) dX13_isOrder_28 kc_iconst_1 ?_
  refine sn_goto (y := m_X13_isOrder) (pc := 29) (tgt := 33) dX13_isOrder_29 (by decide) ?_
  exact sn_zreturnC (by decide) rfl dX13_isOrder_33
set_option maxRecDepth 100000 in
theorem c_X13_isOrder (g : Gl) (p0 : (Option Nat)) (p1 : Int32) (p2 : Int32) : Cn g m_X13_isOrder eI [vA p0, vI p1, vI p2] (mCk 11 p0 (f_X13_isOrder p0 p1 p2)) := cn_of_sn (by decide +kernel) rfl (fun r => ⟨r, rfl⟩) rfl (fun _ _ => sn_ck (s_X13_isOrder p0 p1 p2))
/-! X13_areOrders -/
def f_X13_areOrders (p0 : (Option Nat)) (p1 : Int32) (p2 : Int32) (p3 : Int32) : Mo Int32 :=
  mBd (mCk 11 p0 (f_X13_isOrder p0 p1 p2)) (fun r1 => (if r1 = 0 then mRt (0 : Int32) else mBd (mCk 11 p0 (f_X13_isOrder p0 p1 p3)) (fun r2 => (if r2 = 0 then mRt (0 : Int32) else mRt (1 : Int32)))))
set_option maxRecDepth 100000 in
theorem s_X13_areOrders {cx : CX} (p0 : (Option Nat)) (p1 : Int32) (p2 : Int32) (p3 : Int32) : Sn cx m_X13_areOrders eI 0 [(0, vA p0), (1, vI p1), (2, vI p2), (3, vI p3)] [] (f_X13_areOrders p0 p1 p2 p3) := by
  refine sn_aload_n (y := m_X13_areOrders) (pc := 0) dX13_areOrders_0 rfl ?_
  refine sn_iload_n (y := m_X13_areOrders) (pc := 1) dX13_areOrders_1 rfl ?_
  refine sn_iload_n (y := m_X13_areOrders) (pc := 2) dX13_areOrders_2 rfl ?_
  refine sn_invV (y := m_X13_areOrders) (pc := 3) ca_11 (av := [vI p1, vI p2]) (o := p0) (st := []) dX13_areOrders_3 lk_X13_384 im_X13_isOrder se_X13_isOrder rfl rfl rfl rfl ⟨by decide, by decide⟩ (c_X13_isOrder cx.1 p0 p1 p2) (fun r1 => ?_)
  refine sn_if_eq (y := m_X13_areOrders) (pc := 6) (tgt := 22) dX13_areOrders_6 (by decide) (fun _ => ?_) (fun _ => ?_)
  · refine sn_iconst (y := m_X13_areOrders) (pc := 22) dX13_areOrders_22 kc_iconst_0 ?_
    exact sn_zreturnC (by decide) rfl dX13_areOrders_23
  refine sn_aload_n (y := m_X13_areOrders) (pc := 9) dX13_areOrders_9 rfl ?_
  refine sn_iload_n (y := m_X13_areOrders) (pc := 10) dX13_areOrders_10 rfl ?_
  refine sn_iload_n (y := m_X13_areOrders) (pc := 11) dX13_areOrders_11 rfl ?_
  refine sn_invV (y := m_X13_areOrders) (pc := 12) ca_11 (av := [vI p1, vI p3]) (o := p0) (st := []) dX13_areOrders_12 lk_X13_384 im_X13_isOrder se_X13_isOrder rfl rfl rfl rfl ⟨by decide, by decide⟩ (c_X13_isOrder cx.1 p0 p1 p3) (fun r2 => ?_)
  refine sn_if_eq (y := m_X13_areOrders) (pc := 15) (tgt := 22) dX13_areOrders_15 (by decide) (fun _ => ?_) (fun _ => ?_)
  · refine sn_iconst (y := m_X13_areOrders) (pc := 22) dX13_areOrders_22 kc_iconst_0 ?_
    exact sn_zreturnC (by decide) rfl dX13_areOrders_23
  refine sn_iconst (y := m_X13_areOrders) (pc := 18) dX13_areOrders_18 kc_iconst_1 ?_
  refine sn_goto (y := m_X13_areOrders) (pc := 19) (tgt := 23) dX13_areOrders_19 (by decide) ?_
  exact sn_zreturnC (by decide) rfl dX13_areOrders_23
set_option maxRecDepth 100000 in
theorem c_X13_areOrders (g : Gl) (p0 : (Option Nat)) (p1 : Int32) (p2 : Int32) (p3 : Int32) : Cn g m_X13_areOrders eI [vA p0, vI p1, vI p2, vI p3] (mCk 11 p0 (f_X13_areOrders p0 p1 p2 p3)) := cn_of_sn (by decide +kernel) rfl (fun r => ⟨r, rfl⟩) rfl (fun _ _ => sn_ck (s_X13_areOrders p0 p1 p2 p3))
/-! X13_field -/
def f_X13_field (p0 : (Option Nat)) (p1 : Int32) (p2 : Int32) : Mo Int32 :=
  mBd (mPutI 11 0 p0 (0 : Int32)) (fun _ => mBd (mCk 11 p0 (f_X13_isField p0 p1)) (fun r1 => (if r1 = 0 then mBd (mCk 11 p0 (f_X13_refused p0 (1 : Int32))) (fun r2 => mRt r2) else mBd (f_X13_in p2 (0 : Int32) (3 : Int32)) (fun r3 => (if ¬ r3 = 0 then mBd (mGetA 11 3 p0) (fun r4 => mBd (mGetA 9 4 r4) (fun r5 => mBd (mLdA 7 r5 p1) (fun r6 => (if ¬ p2 = 0 then (if ¬ p2 = (1 : Int32) then (if ¬ p2 = (2 : Int32) then mBd (mGetI 10 3 r6) (fun r7 => mBd (mCk 11 p0 (f_X13_good p0 r7)) (fun r8 => mRt r8)) else mBd (mGetI 10 2 r6) (fun r9 => mBd (mCk 11 p0 (f_X13_good p0 r9)) (fun r10 => mRt r10))) else mBd (mGetI 10 1 r6) (fun r11 => mBd (mCk 11 p0 (f_X13_good p0 r11)) (fun r12 => mRt r12))) else mBd (mGetI 10 0 r6) (fun r13 => mBd (mCk 11 p0 (f_X13_good p0 r13)) (fun r14 => mRt r14)))))) else mBd (mCk 11 p0 (f_X13_refused p0 (1 : Int32))) (fun r15 => mRt r15))))))
set_option maxRecDepth 100000 in
theorem s_X13_field {cx : CX} (p0 : (Option Nat)) (p1 : Int32) (p2 : Int32) : Sn cx m_X13_field eI 0 [(0, vA p0), (1, vI p1), (2, vI p2)] [] (f_X13_field p0 p1 p2) := by
  refine sn_aload_n (y := m_X13_field) (pc := 0) dX13_field_0 rfl ?_
  refine sn_iconst (y := m_X13_field) (pc := 1) dX13_field_1 kc_iconst_0 ?_
  refine sn_putI (y := m_X13_field) (pc := 2) ca_11 rfl fk_X13_46 (Or.inl rfl) rfl dX13_field_2 ?_
  refine sn_aload_n (y := m_X13_field) (pc := 5) dX13_field_5 rfl ?_
  refine sn_iload_n (y := m_X13_field) (pc := 6) dX13_field_6 rfl ?_
  refine sn_invV (y := m_X13_field) (pc := 7) ca_11 (av := [vI p1]) (o := p0) (st := []) dX13_field_7 lk_X13_381 im_X13_isField se_X13_isField rfl rfl rfl rfl ⟨by decide, by decide⟩ (c_X13_isField cx.1 p0 p1) (fun r1 => ?_)
  refine sn_if_eq (y := m_X13_field) (pc := 10) (tgt := 22) dX13_field_10 (by decide) (fun _ => ?_) (fun _ => ?_)
  · refine sn_aload_n (y := m_X13_field) (pc := 22) dX13_field_22 rfl ?_
    refine sn_iconst (y := m_X13_field) (pc := 23) dX13_field_23 kc_iconst_1 ?_
    refine sn_invV (y := m_X13_field) (pc := 24) ca_11 (av := [vI (1 : Int32)]) (o := p0) (st := []) dX13_field_24 lk_X13_52 im_X13_refused se_X13_refused rfl rfl rfl rfl ⟨by decide, by decide⟩ (c_X13_refused cx.1 p0 (1 : Int32)) (fun r2 => ?_)
    exact sn_ireturn rfl dX13_field_27
  refine sn_iload_n (y := m_X13_field) (pc := 13) dX13_field_13 rfl ?_
  refine sn_iconst (y := m_X13_field) (pc := 14) dX13_field_14 kc_iconst_0 ?_
  refine sn_iconst (y := m_X13_field) (pc := 15) dX13_field_15 kc_iconst_3 ?_
  refine sn_invS (y := m_X13_field) (pc := 16) (av := [vI p2, vI (0 : Int32), vI (3 : Int32)]) (st := []) dX13_field_16 lk_X13_168 sw_X13_in rfl rfl rfl ⟨by decide, by decide⟩ (c_X13_in cx.1 p2 (0 : Int32) (3 : Int32)) (fun r3 => ?_)
  refine sn_if_ne (y := m_X13_field) (pc := 19) (tgt := 28) dX13_field_19 (by decide) (fun _ => ?_) (fun _ => ?_)
  · refine sn_aload_n (y := m_X13_field) (pc := 28) dX13_field_28 rfl ?_
    refine sn_getA (y := m_X13_field) (pc := 29) ca_11 rfl fk_X13_369 (fun _ _ _ => rfl) dX13_field_29 (fun r4 => ?_)
    refine sn_getA (y := m_X13_field) (pc := 32) ca_9 rfl fk_X13_259 (fun _ _ _ => rfl) dX13_field_32 (fun r5 => ?_)
    refine sn_iload_n (y := m_X13_field) (pc := 35) dX13_field_35 rfl ?_
    refine sn_aaload (y := m_X13_field) (pc := 36) dX13_field_36 (fun r6 => ?_)
    refine sn_astore_n (y := m_X13_field) (pc := 37) dX13_field_37 rfl ?_
    refine sn_aload_n (y := m_X13_field) (pc := 38) dX13_field_38 rfl ?_
    refine sn_iload_n (y := m_X13_field) (pc := 39) dX13_field_39 rfl ?_
    refine sn_if_ne (y := m_X13_field) (pc := 40) (tgt := 50) dX13_field_40 (by decide) (fun _ => ?_) (fun _ => ?_)
    · refine sn_iload_n (y := m_X13_field) (pc := 50) dX13_field_50 rfl ?_
      refine sn_iconst (y := m_X13_field) (pc := 51) dX13_field_51 kc_iconst_1 ?_
      refine sn_icmp_ne (y := m_X13_field) (pc := 52) (tgt := 62) dX13_field_52 (by decide) (fun _ => ?_) (fun _ => ?_)
      · refine sn_iload_n (y := m_X13_field) (pc := 62) dX13_field_62 rfl ?_
        refine sn_iconst (y := m_X13_field) (pc := 63) dX13_field_63 kc_iconst_2 ?_
        refine sn_icmp_ne (y := m_X13_field) (pc := 64) (tgt := 74) dX13_field_64 (by decide) (fun _ => ?_) (fun _ => ?_)
        · refine sn_aload_n (y := m_X13_field) (pc := 74) dX13_field_74 rfl ?_
          refine sn_getI (y := m_X13_field) (pc := 75) ca_10 rfl fk_X13_64 (fun _ _ _ => rfl) dX13_field_75 (fun r7 => ?_)
          refine sn_invV (y := m_X13_field) (pc := 78) ca_11 (av := [vI r7]) (o := p0) (st := []) dX13_field_78 lk_X13_56 im_X13_good se_X13_good rfl rfl rfl rfl ⟨by decide, by decide⟩ (c_X13_good cx.1 p0 r7) (fun r8 => ?_)
          exact sn_ireturn rfl dX13_field_81
        refine sn_aload_n (y := m_X13_field) (pc := 67) dX13_field_67 rfl ?_
        refine sn_getI (y := m_X13_field) (pc := 68) ca_10 rfl fk_X13_91 (fun _ _ _ => rfl) dX13_field_68 (fun r9 => ?_)
        refine sn_goto (y := m_X13_field) (pc := 71) (tgt := 78) dX13_field_71 (by decide) ?_
        refine sn_invV (y := m_X13_field) (pc := 78) ca_11 (av := [vI r9]) (o := p0) (st := []) dX13_field_78 lk_X13_56 im_X13_good se_X13_good rfl rfl rfl rfl ⟨by decide, by decide⟩ (c_X13_good cx.1 p0 r9) (fun r10 => ?_)
        exact sn_ireturn rfl dX13_field_81
      refine sn_aload_n (y := m_X13_field) (pc := 55) dX13_field_55 rfl ?_
      refine sn_getI (y := m_X13_field) (pc := 56) ca_10 rfl fk_X13_59 (fun _ _ _ => rfl) dX13_field_56 (fun r11 => ?_)
      refine sn_goto (y := m_X13_field) (pc := 59) (tgt := 78) dX13_field_59 (by decide) ?_
      refine sn_invV (y := m_X13_field) (pc := 78) ca_11 (av := [vI r11]) (o := p0) (st := []) dX13_field_78 lk_X13_56 im_X13_good se_X13_good rfl rfl rfl rfl ⟨by decide, by decide⟩ (c_X13_good cx.1 p0 r11) (fun r12 => ?_)
      exact sn_ireturn rfl dX13_field_81
    refine sn_aload_n (y := m_X13_field) (pc := 43) dX13_field_43 rfl ?_
    refine sn_getI (y := m_X13_field) (pc := 44) ca_10 rfl fk_X13_81 (fun _ _ _ => rfl) dX13_field_44 (fun r13 => ?_)
    refine sn_goto (y := m_X13_field) (pc := 47) (tgt := 78) dX13_field_47 (by decide) ?_
    refine sn_invV (y := m_X13_field) (pc := 78) ca_11 (av := [vI r13]) (o := p0) (st := []) dX13_field_78 lk_X13_56 im_X13_good se_X13_good rfl rfl rfl rfl ⟨by decide, by decide⟩ (c_X13_good cx.1 p0 r13) (fun r14 => ?_)
    exact sn_ireturn rfl dX13_field_81
  refine sn_aload_n (y := m_X13_field) (pc := 22) dX13_field_22 rfl ?_
  refine sn_iconst (y := m_X13_field) (pc := 23) dX13_field_23 kc_iconst_1 ?_
  refine sn_invV (y := m_X13_field) (pc := 24) ca_11 (av := [vI (1 : Int32)]) (o := p0) (st := []) dX13_field_24 lk_X13_52 im_X13_refused se_X13_refused rfl rfl rfl rfl ⟨by decide, by decide⟩ (c_X13_refused cx.1 p0 (1 : Int32)) (fun r15 => ?_)
  exact sn_ireturn rfl dX13_field_27
set_option maxRecDepth 100000 in
theorem c_X13_field (g : Gl) (p0 : (Option Nat)) (p1 : Int32) (p2 : Int32) : Cn g m_X13_field eI [vA p0, vI p1, vI p2] (mCk 11 p0 (f_X13_field p0 p1 p2)) := cn_of_sn (by decide +kernel) rfl (fun r => ⟨r, rfl⟩) rfl (fun _ _ => sn_ck (s_X13_field p0 p1 p2))
/-! X13_log -/
def f_X13_log (p0 : (Option Nat)) (p1 : Int32) (p2 : Int32) : Mo Int32 :=
  mBd (mPutI 11 0 p0 (0 : Int32)) (fun _ => mBd (mCk 11 p0 (f_X13_isField p0 p1)) (fun r1 => (if ¬ r1 = 0 then mBd (mGetA 11 3 p0) (fun r2 => mBd (mGetA 9 4 r2) (fun r3 => mBd (mLdA 7 r3 p1) (fun r4 => mBd (mGetI 10 0 r4) (fun r5 => mBd (f_X13_in p2 (1 : Int32) (r5 - (1 : Int32))) (fun r6 => (if r6 = 0 then mBd (mCk 11 p0 (f_X13_refused p0 (2 : Int32))) (fun r7 => mRt r7) else mBd (mGetA 11 3 p0) (fun r8 => mBd (mGetA 9 4 r8) (fun r9 => mBd (mLdA 7 r9 p1) (fun r10 => mBd (mGetA 10 4 r10) (fun r11 => mBd (mLdI 1 r11 p2) (fun r12 => mBd (mCk 11 p0 (f_X13_good p0 r12)) (fun r13 => mRt r13)))))))))))) else mBd (mCk 11 p0 (f_X13_refused p0 (1 : Int32))) (fun r14 => mRt r14))))
set_option maxRecDepth 100000 in
theorem s_X13_log {cx : CX} (p0 : (Option Nat)) (p1 : Int32) (p2 : Int32) : Sn cx m_X13_log eI 0 [(0, vA p0), (1, vI p1), (2, vI p2)] [] (f_X13_log p0 p1 p2) := by
  refine sn_aload_n (y := m_X13_log) (pc := 0) dX13_log_0 rfl ?_
  refine sn_iconst (y := m_X13_log) (pc := 1) dX13_log_1 kc_iconst_0 ?_
  refine sn_putI (y := m_X13_log) (pc := 2) ca_11 rfl fk_X13_46 (Or.inl rfl) rfl dX13_log_2 ?_
  refine sn_aload_n (y := m_X13_log) (pc := 5) dX13_log_5 rfl ?_
  refine sn_iload_n (y := m_X13_log) (pc := 6) dX13_log_6 rfl ?_
  refine sn_invV (y := m_X13_log) (pc := 7) ca_11 (av := [vI p1]) (o := p0) (st := []) dX13_log_7 lk_X13_381 im_X13_isField se_X13_isField rfl rfl rfl rfl ⟨by decide, by decide⟩ (c_X13_isField cx.1 p0 p1) (fun r1 => ?_)
  refine sn_if_ne (y := m_X13_log) (pc := 10) (tgt := 19) dX13_log_10 (by decide) (fun _ => ?_) (fun _ => ?_)
  · refine sn_iload_n (y := m_X13_log) (pc := 19) dX13_log_19 rfl ?_
    refine sn_iconst (y := m_X13_log) (pc := 20) dX13_log_20 kc_iconst_1 ?_
    refine sn_aload_n (y := m_X13_log) (pc := 21) dX13_log_21 rfl ?_
    refine sn_getA (y := m_X13_log) (pc := 22) ca_11 rfl fk_X13_369 (fun _ _ _ => rfl) dX13_log_22 (fun r2 => ?_)
    refine sn_getA (y := m_X13_log) (pc := 25) ca_9 rfl fk_X13_259 (fun _ _ _ => rfl) dX13_log_25 (fun r3 => ?_)
    refine sn_iload_n (y := m_X13_log) (pc := 28) dX13_log_28 rfl ?_
    refine sn_aaload (y := m_X13_log) (pc := 29) dX13_log_29 (fun r4 => ?_)
    refine sn_getI (y := m_X13_log) (pc := 30) ca_10 rfl fk_X13_81 (fun _ _ _ => rfl) dX13_log_30 (fun r5 => ?_)
    refine sn_iconst (y := m_X13_log) (pc := 33) dX13_log_33 kc_iconst_1 ?_
    refine sn_isub (y := m_X13_log) (pc := 34) dX13_log_34 ?_
    refine sn_invS (y := m_X13_log) (pc := 35) (av := [vI p2, vI (1 : Int32), vI (r5 - (1 : Int32))]) (st := []) dX13_log_35 lk_X13_168 sw_X13_in rfl rfl rfl ⟨by decide, by decide⟩ (c_X13_in cx.1 p2 (1 : Int32) (r5 - (1 : Int32))) (fun r6 => ?_)
    refine sn_if_eq (y := m_X13_log) (pc := 38) (tgt := 62) dX13_log_38 (by decide) (fun _ => ?_) (fun _ => ?_)
    · refine sn_aload_n (y := m_X13_log) (pc := 62) dX13_log_62 rfl ?_
      refine sn_iconst (y := m_X13_log) (pc := 63) dX13_log_63 kc_iconst_2 ?_
      refine sn_invV (y := m_X13_log) (pc := 64) ca_11 (av := [vI (2 : Int32)]) (o := p0) (st := []) dX13_log_64 lk_X13_52 im_X13_refused se_X13_refused rfl rfl rfl rfl ⟨by decide, by decide⟩ (c_X13_refused cx.1 p0 (2 : Int32)) (fun r7 => ?_)
      exact sn_ireturn rfl dX13_log_67
    refine sn_aload_n (y := m_X13_log) (pc := 41) dX13_log_41 rfl ?_
    refine sn_aload_n (y := m_X13_log) (pc := 42) dX13_log_42 rfl ?_
    refine sn_getA (y := m_X13_log) (pc := 43) ca_11 rfl fk_X13_369 (fun _ _ _ => rfl) dX13_log_43 (fun r8 => ?_)
    refine sn_getA (y := m_X13_log) (pc := 46) ca_9 rfl fk_X13_259 (fun _ _ _ => rfl) dX13_log_46 (fun r9 => ?_)
    refine sn_iload_n (y := m_X13_log) (pc := 49) dX13_log_49 rfl ?_
    refine sn_aaload (y := m_X13_log) (pc := 50) dX13_log_50 (fun r10 => ?_)
    refine sn_getA (y := m_X13_log) (pc := 51) ca_10 rfl fk_X13_84 (fun _ _ _ => rfl) dX13_log_51 (fun r11 => ?_)
    refine sn_iload_n (y := m_X13_log) (pc := 54) dX13_log_54 rfl ?_
    refine sn_iaload (y := m_X13_log) (pc := 55) dX13_log_55 (fun r12 => ?_)
    refine sn_invV (y := m_X13_log) (pc := 56) ca_11 (av := [vI r12]) (o := p0) (st := []) dX13_log_56 lk_X13_56 im_X13_good se_X13_good rfl rfl rfl rfl ⟨by decide, by decide⟩ (c_X13_good cx.1 p0 r12) (fun r13 => ?_)
    refine sn_goto (y := m_X13_log) (pc := 59) (tgt := 67) dX13_log_59 (by decide) ?_
    exact sn_ireturn rfl dX13_log_67
  refine sn_aload_n (y := m_X13_log) (pc := 13) dX13_log_13 rfl ?_
  refine sn_iconst (y := m_X13_log) (pc := 14) dX13_log_14 kc_iconst_1 ?_
  refine sn_invV (y := m_X13_log) (pc := 15) ca_11 (av := [vI (1 : Int32)]) (o := p0) (st := []) dX13_log_15 lk_X13_52 im_X13_refused se_X13_refused rfl rfl rfl rfl ⟨by decide, by decide⟩ (c_X13_refused cx.1 p0 (1 : Int32)) (fun r14 => ?_)
  exact sn_ireturn rfl dX13_log_18
set_option maxRecDepth 100000 in
theorem c_X13_log (g : Gl) (p0 : (Option Nat)) (p1 : Int32) (p2 : Int32) : Cn g m_X13_log eI [vA p0, vI p1, vI p2] (mCk 11 p0 (f_X13_log p0 p1 p2)) := cn_of_sn (by decide +kernel) rfl (fun r => ⟨r, rfl⟩) rfl (fun _ _ => sn_ck (s_X13_log p0 p1 p2))
/-! X13_character -/
def f_X13_character (p0 : (Option Nat)) (p1 : Int32) (p2 : Int32) (p3 : Int32) : Mo Int32 :=
  mBd (mPutI 11 0 p0 (0 : Int32)) (fun _ => mBd (mCk 11 p0 (f_X13_isOrder p0 p1 p2)) (fun r1 => (if ¬ r1 = 0 then mBd (mGetA 11 3 p0) (fun r2 => mBd (mGetA 9 4 r2) (fun r3 => mBd (mLdA 7 r3 p1) (fun r4 => mBd (mGetI 10 0 r4) (fun r5 => mBd (f_X13_in p3 (0 : Int32) (r5 - (1 : Int32))) (fun r6 => (if r6 = 0 then mBd (mCk 11 p0 (f_X13_refused p0 (2 : Int32))) (fun r7 => mRt r7) else mBd (mGetA 11 3 p0) (fun r8 => mBd (mGetA 9 4 r8) (fun r9 => mBd (mLdA 7 r9 p1) (fun r10 => mBd (f_X13_at r10 p2 p3) (fun r11 => mBd (mCk 11 p0 (f_X13_good p0 r11)) (fun r12 => mRt r12))))))))))) else mBd (mCk 11 p0 (f_X13_refused p0 (1 : Int32))) (fun r13 => mRt r13))))
set_option maxRecDepth 100000 in
theorem s_X13_character {cx : CX} (p0 : (Option Nat)) (p1 : Int32) (p2 : Int32) (p3 : Int32) : Sn cx m_X13_character eI 0 [(0, vA p0), (1, vI p1), (2, vI p2), (3, vI p3)] [] (f_X13_character p0 p1 p2 p3) := by
  refine sn_aload_n (y := m_X13_character) (pc := 0) dX13_character_0 rfl ?_
  refine sn_iconst (y := m_X13_character) (pc := 1) dX13_character_1 kc_iconst_0 ?_
  refine sn_putI (y := m_X13_character) (pc := 2) ca_11 rfl fk_X13_46 (Or.inl rfl) rfl dX13_character_2 ?_
  refine sn_aload_n (y := m_X13_character) (pc := 5) dX13_character_5 rfl ?_
  refine sn_iload_n (y := m_X13_character) (pc := 6) dX13_character_6 rfl ?_
  refine sn_iload_n (y := m_X13_character) (pc := 7) dX13_character_7 rfl ?_
  refine sn_invV (y := m_X13_character) (pc := 8) ca_11 (av := [vI p1, vI p2]) (o := p0) (st := []) dX13_character_8 lk_X13_384 im_X13_isOrder se_X13_isOrder rfl rfl rfl rfl ⟨by decide, by decide⟩ (c_X13_isOrder cx.1 p0 p1 p2) (fun r1 => ?_)
  refine sn_if_ne (y := m_X13_character) (pc := 11) (tgt := 20) dX13_character_11 (by decide) (fun _ => ?_) (fun _ => ?_)
  · refine sn_iload_n (y := m_X13_character) (pc := 20) dX13_character_20 rfl ?_
    refine sn_iconst (y := m_X13_character) (pc := 21) dX13_character_21 kc_iconst_0 ?_
    refine sn_aload_n (y := m_X13_character) (pc := 22) dX13_character_22 rfl ?_
    refine sn_getA (y := m_X13_character) (pc := 23) ca_11 rfl fk_X13_369 (fun _ _ _ => rfl) dX13_character_23 (fun r2 => ?_)
    refine sn_getA (y := m_X13_character) (pc := 26) ca_9 rfl fk_X13_259 (fun _ _ _ => rfl) dX13_character_26 (fun r3 => ?_)
    refine sn_iload_n (y := m_X13_character) (pc := 29) dX13_character_29 rfl ?_
    refine sn_aaload (y := m_X13_character) (pc := 30) dX13_character_30 (fun r4 => ?_)
    refine sn_getI (y := m_X13_character) (pc := 31) ca_10 rfl fk_X13_81 (fun _ _ _ => rfl) dX13_character_31 (fun r5 => ?_)
    refine sn_iconst (y := m_X13_character) (pc := 34) dX13_character_34 kc_iconst_1 ?_
    refine sn_isub (y := m_X13_character) (pc := 35) dX13_character_35 ?_
    refine sn_invS (y := m_X13_character) (pc := 36) (av := [vI p3, vI (0 : Int32), vI (r5 - (1 : Int32))]) (st := []) dX13_character_36 lk_X13_168 sw_X13_in rfl rfl rfl ⟨by decide, by decide⟩ (c_X13_in cx.1 p3 (0 : Int32) (r5 - (1 : Int32))) (fun r6 => ?_)
    refine sn_if_eq (y := m_X13_character) (pc := 39) (tgt := 63) dX13_character_39 (by decide) (fun _ => ?_) (fun _ => ?_)
    · refine sn_aload_n (y := m_X13_character) (pc := 63) dX13_character_63 rfl ?_
      refine sn_iconst (y := m_X13_character) (pc := 64) dX13_character_64 kc_iconst_2 ?_
      refine sn_invV (y := m_X13_character) (pc := 65) ca_11 (av := [vI (2 : Int32)]) (o := p0) (st := []) dX13_character_65 lk_X13_52 im_X13_refused se_X13_refused rfl rfl rfl rfl ⟨by decide, by decide⟩ (c_X13_refused cx.1 p0 (2 : Int32)) (fun r7 => ?_)
      exact sn_ireturn rfl dX13_character_68
    refine sn_aload_n (y := m_X13_character) (pc := 42) dX13_character_42 rfl ?_
    refine sn_aload_n (y := m_X13_character) (pc := 43) dX13_character_43 rfl ?_
    refine sn_getA (y := m_X13_character) (pc := 44) ca_11 rfl fk_X13_369 (fun _ _ _ => rfl) dX13_character_44 (fun r8 => ?_)
    refine sn_getA (y := m_X13_character) (pc := 47) ca_9 rfl fk_X13_259 (fun _ _ _ => rfl) dX13_character_47 (fun r9 => ?_)
    refine sn_iload_n (y := m_X13_character) (pc := 50) dX13_character_50 rfl ?_
    refine sn_aaload (y := m_X13_character) (pc := 51) dX13_character_51 (fun r10 => ?_)
    refine sn_iload_n (y := m_X13_character) (pc := 52) dX13_character_52 rfl ?_
    refine sn_iload_n (y := m_X13_character) (pc := 53) dX13_character_53 rfl ?_
    refine sn_invS (y := m_X13_character) (pc := 54) (av := [vA r10, vI p2, vI p3]) (st := [vA p0]) dX13_character_54 lk_X13_87 sw_X13_at rfl rfl rfl ⟨by decide, by decide⟩ (c_X13_at cx.1 r10 p2 p3) (fun r11 => ?_)
    refine sn_invV (y := m_X13_character) (pc := 57) ca_11 (av := [vI r11]) (o := p0) (st := []) dX13_character_57 lk_X13_56 im_X13_good se_X13_good rfl rfl rfl rfl ⟨by decide, by decide⟩ (c_X13_good cx.1 p0 r11) (fun r12 => ?_)
    refine sn_goto (y := m_X13_character) (pc := 60) (tgt := 68) dX13_character_60 (by decide) ?_
    exact sn_ireturn rfl dX13_character_68
  refine sn_aload_n (y := m_X13_character) (pc := 14) dX13_character_14 rfl ?_
  refine sn_iconst (y := m_X13_character) (pc := 15) dX13_character_15 kc_iconst_1 ?_
  refine sn_invV (y := m_X13_character) (pc := 16) ca_11 (av := [vI (1 : Int32)]) (o := p0) (st := []) dX13_character_16 lk_X13_52 im_X13_refused se_X13_refused rfl rfl rfl rfl ⟨by decide, by decide⟩ (c_X13_refused cx.1 p0 (1 : Int32)) (fun r13 => ?_)
  exact sn_ireturn rfl dX13_character_19
set_option maxRecDepth 100000 in
theorem c_X13_character (g : Gl) (p0 : (Option Nat)) (p1 : Int32) (p2 : Int32) (p3 : Int32) : Cn g m_X13_character eI [vA p0, vI p1, vI p2, vI p3] (mCk 11 p0 (f_X13_character p0 p1 p2 p3)) := cn_of_sn (by decide +kernel) rfl (fun r => ⟨r, rfl⟩) rfl (fun _ _ => sn_ck (s_X13_character p0 p1 p2 p3))
/-! X13_sum -/
def f_X13_sum (p0 : (Option Nat)) (p1 : Int32) (p2 : Int32) (p3 : Int32) (p4 : Int32) : Mo Int32 :=
  mBd (mPutI 11 0 p0 (0 : Int32)) (fun _ => mBd (mCk 11 p0 (f_X13_areOrders p0 p1 p2 p3)) (fun r1 => (if r1 = 0 then mBd (mCk 11 p0 (f_X13_refusedBy p0 (1 : Int32) (-1000 : Int32))) (fun r2 => mRt r2) else mBd (mGetA 11 3 p0) (fun r3 => mBd (mGetA 9 4 r3) (fun r4 => mBd (mLdA 7 r4 p1) (fun r5 => mBd (mGetI 10 3 r5) (fun r6 => mBd (f_X13_in p4 (0 : Int32) (r6 - (1 : Int32))) (fun r7 => (if ¬ r7 = 0 then mBd (mGetA 11 3 p0) (fun r8 => mBd (mGetA 9 4 r8) (fun r9 => mBd (mLdA 7 r9 p1) (fun r10 => mBd (mCk 11 p0 (f_X13_jacobiRow p0 r10 p2 p3 (0 : Int32))) (fun _ => mBd (mGetA 11 5 p0) (fun r11 => mBd (mLdJ r11 p4) (fun r12 => mBd (mCk 11 p0 (f_X13_good p0 (r12.toInt32))) (fun r13 => mRt r13))))))) else mBd (mCk 11 p0 (f_X13_refusedBy p0 (1 : Int32) (-1000 : Int32))) (fun r14 => mRt r14))))))))))
set_option maxRecDepth 100000 in
theorem s_X13_sum {cx : CX} (p0 : (Option Nat)) (p1 : Int32) (p2 : Int32) (p3 : Int32) (p4 : Int32) : Sn cx m_X13_sum eI 0 [(0, vA p0), (1, vI p1), (2, vI p2), (3, vI p3), (4, vI p4)] [] (f_X13_sum p0 p1 p2 p3 p4) := by
  refine sn_aload_n (y := m_X13_sum) (pc := 0) dX13_sum_0 rfl ?_
  refine sn_iconst (y := m_X13_sum) (pc := 1) dX13_sum_1 kc_iconst_0 ?_
  refine sn_putI (y := m_X13_sum) (pc := 2) ca_11 rfl fk_X13_46 (Or.inl rfl) rfl dX13_sum_2 ?_
  refine sn_aload_n (y := m_X13_sum) (pc := 5) dX13_sum_5 rfl ?_
  refine sn_iload_n (y := m_X13_sum) (pc := 6) dX13_sum_6 rfl ?_
  refine sn_iload_n (y := m_X13_sum) (pc := 7) dX13_sum_7 rfl ?_
  refine sn_iload_n (y := m_X13_sum) (pc := 8) dX13_sum_8 rfl ?_
  refine sn_invV (y := m_X13_sum) (pc := 9) ca_11 (av := [vI p1, vI p2, vI p3]) (o := p0) (st := []) dX13_sum_9 lk_X13_388 im_X13_areOrders se_X13_areOrders rfl rfl rfl rfl ⟨by decide, by decide⟩ (c_X13_areOrders cx.1 p0 p1 p2 p3) (fun r1 => ?_)
  refine sn_if_eq (y := m_X13_sum) (pc := 12) (tgt := 38) dX13_sum_12 (by decide) (fun _ => ?_) (fun _ => ?_)
  · refine sn_aload_n (y := m_X13_sum) (pc := 38) dX13_sum_38 rfl ?_
    refine sn_iconst (y := m_X13_sum) (pc := 39) dX13_sum_39 kc_iconst_1 ?_
    refine sn_sipush (y := m_X13_sum) (pc := 40) dX13_sum_40 kc_sipush_m1000 ?_
    refine sn_invV (y := m_X13_sum) (pc := 43) ca_11 (av := [vI (1 : Int32), vI (-1000 : Int32)]) (o := p0) (st := []) dX13_sum_43 lk_X13_391 im_X13_refusedBy se_X13_refusedBy rfl rfl rfl rfl ⟨by decide, by decide⟩ (c_X13_refusedBy cx.1 p0 (1 : Int32) (-1000 : Int32)) (fun r2 => ?_)
    exact sn_ireturn rfl dX13_sum_46
  refine sn_iload (y := m_X13_sum) (pc := 15) dX13_sum_15 rfl ?_
  refine sn_iconst (y := m_X13_sum) (pc := 17) dX13_sum_17 kc_iconst_0 ?_
  refine sn_aload_n (y := m_X13_sum) (pc := 18) dX13_sum_18 rfl ?_
  refine sn_getA (y := m_X13_sum) (pc := 19) ca_11 rfl fk_X13_369 (fun _ _ _ => rfl) dX13_sum_19 (fun r3 => ?_)
  refine sn_getA (y := m_X13_sum) (pc := 22) ca_9 rfl fk_X13_259 (fun _ _ _ => rfl) dX13_sum_22 (fun r4 => ?_)
  refine sn_iload_n (y := m_X13_sum) (pc := 25) dX13_sum_25 rfl ?_
  refine sn_aaload (y := m_X13_sum) (pc := 26) dX13_sum_26 (fun r5 => ?_)
  refine sn_getI (y := m_X13_sum) (pc := 27) ca_10 rfl fk_X13_64 (fun _ _ _ => rfl) dX13_sum_27 (fun r6 => ?_)
  refine sn_iconst (y := m_X13_sum) (pc := 30) dX13_sum_30 kc_iconst_1 ?_
  refine sn_isub (y := m_X13_sum) (pc := 31) dX13_sum_31 ?_
  refine sn_invS (y := m_X13_sum) (pc := 32) (av := [vI p4, vI (0 : Int32), vI (r6 - (1 : Int32))]) (st := []) dX13_sum_32 lk_X13_168 sw_X13_in rfl rfl rfl ⟨by decide, by decide⟩ (c_X13_in cx.1 p4 (0 : Int32) (r6 - (1 : Int32))) (fun r7 => ?_)
  refine sn_if_ne (y := m_X13_sum) (pc := 35) (tgt := 47) dX13_sum_35 (by decide) (fun _ => ?_) (fun _ => ?_)
  · refine sn_aload_n (y := m_X13_sum) (pc := 47) dX13_sum_47 rfl ?_
    refine sn_aload_n (y := m_X13_sum) (pc := 48) dX13_sum_48 rfl ?_
    refine sn_getA (y := m_X13_sum) (pc := 49) ca_11 rfl fk_X13_369 (fun _ _ _ => rfl) dX13_sum_49 (fun r8 => ?_)
    refine sn_getA (y := m_X13_sum) (pc := 52) ca_9 rfl fk_X13_259 (fun _ _ _ => rfl) dX13_sum_52 (fun r9 => ?_)
    refine sn_iload_n (y := m_X13_sum) (pc := 55) dX13_sum_55 rfl ?_
    refine sn_aaload (y := m_X13_sum) (pc := 56) dX13_sum_56 (fun r10 => ?_)
    refine sn_iload_n (y := m_X13_sum) (pc := 57) dX13_sum_57 rfl ?_
    refine sn_iload_n (y := m_X13_sum) (pc := 58) dX13_sum_58 rfl ?_
    refine sn_iconst (y := m_X13_sum) (pc := 59) dX13_sum_59 kc_iconst_0 ?_
    refine sn_invV (y := m_X13_sum) (pc := 60) ca_11 (av := [vA r10, vI p2, vI p3, vI (0 : Int32)]) (o := p0) (st := []) dX13_sum_60 lk_X13_353 im_X13_jacobiRow se_X13_jacobiRow rfl rfl rfl rfl ⟨by decide, by decide⟩ (c_X13_jacobiRow cx.1 p0 r10 p2 p3 (0 : Int32)) (fun _ => ?_)
    refine sn_aload_n (y := m_X13_sum) (pc := 63) dX13_sum_63 rfl ?_
    refine sn_aload_n (y := m_X13_sum) (pc := 64) dX13_sum_64 rfl ?_
    refine sn_getA (y := m_X13_sum) (pc := 65) ca_11 rfl fk_X13_13 (fun _ _ _ => rfl) dX13_sum_65 (fun r11 => ?_)
    refine sn_iload (y := m_X13_sum) (pc := 68) dX13_sum_68 rfl ?_
    refine sn_laload (y := m_X13_sum) (pc := 70) dX13_sum_70 (fun r12 => ?_)
    refine sn_l2i (y := m_X13_sum) (pc := 71) dX13_sum_71 ?_
    refine sn_invV (y := m_X13_sum) (pc := 72) ca_11 (av := [vI (r12.toInt32)]) (o := p0) (st := []) dX13_sum_72 lk_X13_56 im_X13_good se_X13_good rfl rfl rfl rfl ⟨by decide, by decide⟩ (c_X13_good cx.1 p0 (r12.toInt32)) (fun r13 => ?_)
    exact sn_ireturn rfl dX13_sum_75
  refine sn_aload_n (y := m_X13_sum) (pc := 38) dX13_sum_38 rfl ?_
  refine sn_iconst (y := m_X13_sum) (pc := 39) dX13_sum_39 kc_iconst_1 ?_
  refine sn_sipush (y := m_X13_sum) (pc := 40) dX13_sum_40 kc_sipush_m1000 ?_
  refine sn_invV (y := m_X13_sum) (pc := 43) ca_11 (av := [vI (1 : Int32), vI (-1000 : Int32)]) (o := p0) (st := []) dX13_sum_43 lk_X13_391 im_X13_refusedBy se_X13_refusedBy rfl rfl rfl rfl ⟨by decide, by decide⟩ (c_X13_refusedBy cx.1 p0 (1 : Int32) (-1000 : Int32)) (fun r14 => ?_)
  exact sn_ireturn rfl dX13_sum_46
set_option maxRecDepth 100000 in
theorem c_X13_sum (g : Gl) (p0 : (Option Nat)) (p1 : Int32) (p2 : Int32) (p3 : Int32) (p4 : Int32) : Cn g m_X13_sum eI [vA p0, vI p1, vI p2, vI p3, vI p4] (mCk 11 p0 (f_X13_sum p0 p1 p2 p3 p4)) := cn_of_sn (by decide +kernel) rfl (fun r => ⟨r, rfl⟩) rfl (fun _ _ => sn_ck (s_X13_sum p0 p1 p2 p3 p4))
/-! X13_norm -/
def f_X13_norm (p0 : (Option Nat)) (p1 : Int32) (p2 : Int32) (p3 : Int32) : Mo Int32 :=
  mBd (mPutI 11 0 p0 (0 : Int32)) (fun _ => mBd (mCk 11 p0 (f_X13_areOrders p0 p1 p2 p3)) (fun r1 => (if ¬ r1 = 0 then mBd (mGetA 11 3 p0) (fun r2 => mBd (mGetA 9 4 r2) (fun r3 => mBd (mLdA 7 r3 p1) (fun r4 => mBd (mCk 11 p0 (f_X13_jacobiRow p0 r4 p2 p3 (0 : Int32))) (fun _ => mBd (mGetI 10 1 r4) (fun r5 => mBd (mCk 11 p0 (f_X13_turned p0 r4 (0 : Int32) (r5 - (1 : Int32)) (1 : Int32))) (fun _ => mBd (mCk 11 p0 (f_X13_multiply p0 r4 (0 : Int32) (1 : Int32) (2 : Int32))) (fun _ => mBd (mCk 11 p0 (f_X13_isWhole p0 (2 : Int32))) (fun r6 => (if r6 = 0 then mBd (mCk 11 p0 (f_X13_good p0 (-2 : Int32))) (fun r7 => mRt r7) else mBd (mGetA 11 5 p0) (fun r8 => mBd (mLdJ r8 (24 : Int32)) (fun r9 => mBd (mCk 11 p0 (f_X13_good p0 (r9.toInt32))) (fun r10 => mRt r10)))))))))))) else mBd (mCk 11 p0 (f_X13_refused p0 (1 : Int32))) (fun r11 => mRt r11))))
set_option maxRecDepth 100000 in
theorem s_X13_norm {cx : CX} (p0 : (Option Nat)) (p1 : Int32) (p2 : Int32) (p3 : Int32) : Sn cx m_X13_norm eI 0 [(0, vA p0), (1, vI p1), (2, vI p2), (3, vI p3)] [] (f_X13_norm p0 p1 p2 p3) := by
  refine sn_aload_n (y := m_X13_norm) (pc := 0) dX13_norm_0 rfl ?_
  refine sn_iconst (y := m_X13_norm) (pc := 1) dX13_norm_1 kc_iconst_0 ?_
  refine sn_putI (y := m_X13_norm) (pc := 2) ca_11 rfl fk_X13_46 (Or.inl rfl) rfl dX13_norm_2 ?_
  refine sn_aload_n (y := m_X13_norm) (pc := 5) dX13_norm_5 rfl ?_
  refine sn_iload_n (y := m_X13_norm) (pc := 6) dX13_norm_6 rfl ?_
  refine sn_iload_n (y := m_X13_norm) (pc := 7) dX13_norm_7 rfl ?_
  refine sn_iload_n (y := m_X13_norm) (pc := 8) dX13_norm_8 rfl ?_
  refine sn_invV (y := m_X13_norm) (pc := 9) ca_11 (av := [vI p1, vI p2, vI p3]) (o := p0) (st := []) dX13_norm_9 lk_X13_388 im_X13_areOrders se_X13_areOrders rfl rfl rfl rfl ⟨by decide, by decide⟩ (c_X13_areOrders cx.1 p0 p1 p2 p3) (fun r1 => ?_)
  refine sn_if_ne (y := m_X13_norm) (pc := 12) (tgt := 21) dX13_norm_12 (by decide) (fun _ => ?_) (fun _ => ?_)
  · refine sn_aload_n (y := m_X13_norm) (pc := 21) dX13_norm_21 rfl ?_
    refine sn_getA (y := m_X13_norm) (pc := 22) ca_11 rfl fk_X13_369 (fun _ _ _ => rfl) dX13_norm_22 (fun r2 => ?_)
    refine sn_getA (y := m_X13_norm) (pc := 25) ca_9 rfl fk_X13_259 (fun _ _ _ => rfl) dX13_norm_25 (fun r3 => ?_)
    refine sn_iload_n (y := m_X13_norm) (pc := 28) dX13_norm_28 rfl ?_
    refine sn_aaload (y := m_X13_norm) (pc := 29) dX13_norm_29 (fun r4 => ?_)
    refine sn_astore (y := m_X13_norm) (pc := 30) dX13_norm_30 rfl ?_
    refine sn_aload_n (y := m_X13_norm) (pc := 32) dX13_norm_32 rfl ?_
    refine sn_aload (y := m_X13_norm) (pc := 33) dX13_norm_33 rfl ?_
    refine sn_iload_n (y := m_X13_norm) (pc := 35) dX13_norm_35 rfl ?_
    refine sn_iload_n (y := m_X13_norm) (pc := 36) dX13_norm_36 rfl ?_
    refine sn_iconst (y := m_X13_norm) (pc := 37) dX13_norm_37 kc_iconst_0 ?_
    refine sn_invV (y := m_X13_norm) (pc := 38) ca_11 (av := [vA r4, vI p2, vI p3, vI (0 : Int32)]) (o := p0) (st := []) dX13_norm_38 lk_X13_353 im_X13_jacobiRow se_X13_jacobiRow rfl rfl rfl rfl ⟨by decide, by decide⟩ (c_X13_jacobiRow cx.1 p0 r4 p2 p3 (0 : Int32)) (fun _ => ?_)
    refine sn_aload_n (y := m_X13_norm) (pc := 41) dX13_norm_41 rfl ?_
    refine sn_aload (y := m_X13_norm) (pc := 42) dX13_norm_42 rfl ?_
    refine sn_iconst (y := m_X13_norm) (pc := 44) dX13_norm_44 kc_iconst_0 ?_
    refine sn_aload (y := m_X13_norm) (pc := 45) dX13_norm_45 rfl ?_
    refine sn_getI (y := m_X13_norm) (pc := 47) ca_10 rfl fk_X13_59 (fun _ _ _ => rfl) dX13_norm_47 (fun r5 => ?_)
    refine sn_iconst (y := m_X13_norm) (pc := 50) dX13_norm_50 kc_iconst_1 ?_
    refine sn_isub (y := m_X13_norm) (pc := 51) dX13_norm_51 ?_
    refine sn_iconst (y := m_X13_norm) (pc := 52) dX13_norm_52 kc_iconst_1 ?_
    refine sn_invV (y := m_X13_norm) (pc := 53) ca_11 (av := [vA r4, vI (0 : Int32), vI (r5 - (1 : Int32)), vI (1 : Int32)]) (o := p0) (st := []) dX13_norm_53 lk_X13_359 im_X13_turned se_X13_turned rfl rfl rfl rfl ⟨by decide, by decide⟩ (c_X13_turned cx.1 p0 r4 (0 : Int32) (r5 - (1 : Int32)) (1 : Int32)) (fun _ => ?_)
    refine sn_aload_n (y := m_X13_norm) (pc := 56) dX13_norm_56 rfl ?_
    refine sn_aload (y := m_X13_norm) (pc := 57) dX13_norm_57 rfl ?_
    refine sn_iconst (y := m_X13_norm) (pc := 59) dX13_norm_59 kc_iconst_0 ?_
    refine sn_iconst (y := m_X13_norm) (pc := 60) dX13_norm_60 kc_iconst_1 ?_
    refine sn_iconst (y := m_X13_norm) (pc := 61) dX13_norm_61 kc_iconst_2 ?_
    refine sn_invV (y := m_X13_norm) (pc := 62) ca_11 (av := [vA r4, vI (0 : Int32), vI (1 : Int32), vI (2 : Int32)]) (o := p0) (st := []) dX13_norm_62 lk_X13_334 im_X13_multiply se_X13_multiply rfl rfl rfl rfl ⟨by decide, by decide⟩ (c_X13_multiply cx.1 p0 r4 (0 : Int32) (1 : Int32) (2 : Int32)) (fun _ => ?_)
    refine sn_aload_n (y := m_X13_norm) (pc := 65) dX13_norm_65 rfl ?_
    refine sn_aload_n (y := m_X13_norm) (pc := 66) dX13_norm_66 rfl ?_
    refine sn_iconst (y := m_X13_norm) (pc := 67) dX13_norm_67 kc_iconst_2 ?_
    refine sn_invV (y := m_X13_norm) (pc := 68) ca_11 (av := [vI (2 : Int32)]) (o := p0) (st := [vA p0]) dX13_norm_68 lk_X13_394 im_X13_isWhole se_X13_isWhole rfl rfl rfl rfl ⟨by decide, by decide⟩ (c_X13_isWhole cx.1 p0 (2 : Int32)) (fun r6 => ?_)
    refine sn_if_eq (y := m_X13_norm) (pc := 71) (tgt := 85) dX13_norm_71 (by decide) (fun _ => ?_) (fun _ => ?_)
    · refine sn_bipush (y := m_X13_norm) (pc := 85) dX13_norm_85 kc_bipush_m2 ?_
      refine sn_invV (y := m_X13_norm) (pc := 87) ca_11 (av := [vI (-2 : Int32)]) (o := p0) (st := []) dX13_norm_87 lk_X13_56 im_X13_good se_X13_good rfl rfl rfl rfl ⟨by decide, by decide⟩ (c_X13_good cx.1 p0 (-2 : Int32)) (fun r7 => ?_)
      exact sn_ireturn rfl dX13_norm_90
    refine sn_aload_n (y := m_X13_norm) (pc := 74) dX13_norm_74 rfl ?_
    refine sn_getA (y := m_X13_norm) (pc := 75) ca_11 rfl fk_X13_13 (fun _ _ _ => rfl) dX13_norm_75 (fun r8 => ?_)
    refine sn_bipush (y := m_X13_norm) (pc := 78) dX13_norm_78 kc_bipush_24 ?_
    refine sn_laload (y := m_X13_norm) (pc := 80) dX13_norm_80 (fun r9 => ?_)
    refine sn_l2i (y := m_X13_norm) (pc := 81) dX13_norm_81 ?_
    refine sn_goto (y := m_X13_norm) (pc := 82) (tgt := 87) dX13_norm_82 (by decide) ?_
    refine sn_invV (y := m_X13_norm) (pc := 87) ca_11 (av := [vI (r9.toInt32)]) (o := p0) (st := []) dX13_norm_87 lk_X13_56 im_X13_good se_X13_good rfl rfl rfl rfl ⟨by decide, by decide⟩ (c_X13_good cx.1 p0 (r9.toInt32)) (fun r10 => ?_)
    exact sn_ireturn rfl dX13_norm_90
  refine sn_aload_n (y := m_X13_norm) (pc := 15) dX13_norm_15 rfl ?_
  refine sn_iconst (y := m_X13_norm) (pc := 16) dX13_norm_16 kc_iconst_1 ?_
  refine sn_invV (y := m_X13_norm) (pc := 17) ca_11 (av := [vI (1 : Int32)]) (o := p0) (st := []) dX13_norm_17 lk_X13_52 im_X13_refused se_X13_refused rfl rfl rfl rfl ⟨by decide, by decide⟩ (c_X13_refused cx.1 p0 (1 : Int32)) (fun r11 => ?_)
  exact sn_ireturn rfl dX13_norm_20
set_option maxRecDepth 100000 in
theorem c_X13_norm (g : Gl) (p0 : (Option Nat)) (p1 : Int32) (p2 : Int32) (p3 : Int32) : Cn g m_X13_norm eI [vA p0, vI p1, vI p2, vI p3] (mCk 11 p0 (f_X13_norm p0 p1 p2 p3)) := cn_of_sn (by decide +kernel) rfl (fun r => ⟨r, rfl⟩) rfl (fun _ _ => sn_ck (s_X13_norm p0 p1 p2 p3))
/-! X13_relation -/
def f_X13_relation (p0 : (Option Nat)) (p1 : Int32) (p2 : Int32) (p3 : Int32) (p4 : Int32) : Mo Int32 :=
  mBd (mPutI 11 0 p0 (0 : Int32)) (fun _ => mBd (mCk 11 p0 (f_X13_areOrders p0 p1 p2 p3)) (fun r1 => (if r1 = 0 then mBd (mCk 11 p0 (f_X13_refused p0 (1 : Int32))) (fun r2 => mRt r2) else mBd (mCk 11 p0 (f_X13_isOrder p0 p1 p4)) (fun r3 => (if ¬ r3 = 0 then mBd (mGetA 11 3 p0) (fun r4 => mBd (mGetA 9 4 r4) (fun r5 => mBd (mLdA 7 r5 p1) (fun r6 => mBd (mCk 11 p0 (f_X13_jacobiRow p0 r6 p2 p3 (0 : Int32))) (fun _ => mBd (mGetI 10 1 r6) (fun r7 => mRq (¬ r7 = 0) (mBd (mCk 11 p0 (f_X13_jacobiRow p0 r6 (irem (p2 + p3) r7) p4 (1 : Int32))) (fun _ => mBd (mCk 11 p0 (f_X13_multiply p0 r6 (0 : Int32) (1 : Int32) (2 : Int32))) (fun _ => mBd (mCk 11 p0 (f_X13_jacobiRow p0 r6 p3 p4 (0 : Int32))) (fun _ => mBd (mGetI 10 1 r6) (fun r8 => mRq (¬ r8 = 0) (mBd (mCk 11 p0 (f_X13_jacobiRow p0 r6 p2 (irem (p3 + p4) r8) (1 : Int32))) (fun _ => mBd (mCk 11 p0 (f_X13_multiply p0 r6 (0 : Int32) (1 : Int32) (3 : Int32))) (fun _ => mBd (mCk 11 p0 (f_X13_areAlike p0 (2 : Int32) (3 : Int32))) (fun r9 => (if r9 = 0 then mBd (mCk 11 p0 (f_X13_good p0 (0 : Int32))) (fun r10 => mRt r10) else mBd (mCk 11 p0 (f_X13_good p0 (1 : Int32))) (fun r11 => mRt r11)))))))))))))))) else mBd (mCk 11 p0 (f_X13_refused p0 (1 : Int32))) (fun r12 => mRt r12))))))
set_option maxRecDepth 100000 in
theorem s_X13_relation {cx : CX} (p0 : (Option Nat)) (p1 : Int32) (p2 : Int32) (p3 : Int32) (p4 : Int32) : Sn cx m_X13_relation eI 0 [(0, vA p0), (1, vI p1), (2, vI p2), (3, vI p3), (4, vI p4)] [] (f_X13_relation p0 p1 p2 p3 p4) := by
  refine sn_aload_n (y := m_X13_relation) (pc := 0) dX13_relation_0 rfl ?_
  refine sn_iconst (y := m_X13_relation) (pc := 1) dX13_relation_1 kc_iconst_0 ?_
  refine sn_putI (y := m_X13_relation) (pc := 2) ca_11 rfl fk_X13_46 (Or.inl rfl) rfl dX13_relation_2 ?_
  refine sn_aload_n (y := m_X13_relation) (pc := 5) dX13_relation_5 rfl ?_
  refine sn_iload_n (y := m_X13_relation) (pc := 6) dX13_relation_6 rfl ?_
  refine sn_iload_n (y := m_X13_relation) (pc := 7) dX13_relation_7 rfl ?_
  refine sn_iload_n (y := m_X13_relation) (pc := 8) dX13_relation_8 rfl ?_
  refine sn_invV (y := m_X13_relation) (pc := 9) ca_11 (av := [vI p1, vI p2, vI p3]) (o := p0) (st := []) dX13_relation_9 lk_X13_388 im_X13_areOrders se_X13_areOrders rfl rfl rfl rfl ⟨by decide, by decide⟩ (c_X13_areOrders cx.1 p0 p1 p2 p3) (fun r1 => ?_)
  refine sn_if_eq (y := m_X13_relation) (pc := 12) (tgt := 25) dX13_relation_12 (by decide) (fun _ => ?_) (fun _ => ?_)
  · refine sn_aload_n (y := m_X13_relation) (pc := 25) dX13_relation_25 rfl ?_
    refine sn_iconst (y := m_X13_relation) (pc := 26) dX13_relation_26 kc_iconst_1 ?_
    refine sn_invV (y := m_X13_relation) (pc := 27) ca_11 (av := [vI (1 : Int32)]) (o := p0) (st := []) dX13_relation_27 lk_X13_52 im_X13_refused se_X13_refused rfl rfl rfl rfl ⟨by decide, by decide⟩ (c_X13_refused cx.1 p0 (1 : Int32)) (fun r2 => ?_)
    exact sn_ireturn rfl dX13_relation_30
  refine sn_aload_n (y := m_X13_relation) (pc := 15) dX13_relation_15 rfl ?_
  refine sn_iload_n (y := m_X13_relation) (pc := 16) dX13_relation_16 rfl ?_
  refine sn_iload (y := m_X13_relation) (pc := 17) dX13_relation_17 rfl ?_
  refine sn_invV (y := m_X13_relation) (pc := 19) ca_11 (av := [vI p1, vI p4]) (o := p0) (st := []) dX13_relation_19 lk_X13_384 im_X13_isOrder se_X13_isOrder rfl rfl rfl rfl ⟨by decide, by decide⟩ (c_X13_isOrder cx.1 p0 p1 p4) (fun r3 => ?_)
  refine sn_if_ne (y := m_X13_relation) (pc := 22) (tgt := 31) dX13_relation_22 (by decide) (fun _ => ?_) (fun _ => ?_)
  · refine sn_aload_n (y := m_X13_relation) (pc := 31) dX13_relation_31 rfl ?_
    refine sn_getA (y := m_X13_relation) (pc := 32) ca_11 rfl fk_X13_369 (fun _ _ _ => rfl) dX13_relation_32 (fun r4 => ?_)
    refine sn_getA (y := m_X13_relation) (pc := 35) ca_9 rfl fk_X13_259 (fun _ _ _ => rfl) dX13_relation_35 (fun r5 => ?_)
    refine sn_iload_n (y := m_X13_relation) (pc := 38) dX13_relation_38 rfl ?_
    refine sn_aaload (y := m_X13_relation) (pc := 39) dX13_relation_39 (fun r6 => ?_)
    refine sn_astore (y := m_X13_relation) (pc := 40) dX13_relation_40 rfl ?_
    refine sn_aload_n (y := m_X13_relation) (pc := 42) dX13_relation_42 rfl ?_
    refine sn_aload (y := m_X13_relation) (pc := 43) dX13_relation_43 rfl ?_
    refine sn_iload_n (y := m_X13_relation) (pc := 45) dX13_relation_45 rfl ?_
    refine sn_iload_n (y := m_X13_relation) (pc := 46) dX13_relation_46 rfl ?_
    refine sn_iconst (y := m_X13_relation) (pc := 47) dX13_relation_47 kc_iconst_0 ?_
    refine sn_invV (y := m_X13_relation) (pc := 48) ca_11 (av := [vA r6, vI p2, vI p3, vI (0 : Int32)]) (o := p0) (st := []) dX13_relation_48 lk_X13_353 im_X13_jacobiRow se_X13_jacobiRow rfl rfl rfl rfl ⟨by decide, by decide⟩ (c_X13_jacobiRow cx.1 p0 r6 p2 p3 (0 : Int32)) (fun _ => ?_)
    refine sn_aload_n (y := m_X13_relation) (pc := 51) dX13_relation_51 rfl ?_
    refine sn_aload (y := m_X13_relation) (pc := 52) dX13_relation_52 rfl ?_
    refine sn_iload_n (y := m_X13_relation) (pc := 54) dX13_relation_54 rfl ?_
    refine sn_iload_n (y := m_X13_relation) (pc := 55) dX13_relation_55 rfl ?_
    refine sn_iadd (y := m_X13_relation) (pc := 56) dX13_relation_56 ?_
    refine sn_aload (y := m_X13_relation) (pc := 57) dX13_relation_57 rfl ?_
    refine sn_getI (y := m_X13_relation) (pc := 59) ca_10 rfl fk_X13_59 (fun _ _ _ => rfl) dX13_relation_59 (fun r7 => ?_)
    refine sn_irem (y := m_X13_relation) (pc := 62) dX13_relation_62 ?_
    refine sn_iload (y := m_X13_relation) (pc := 63) dX13_relation_63 rfl ?_
    refine sn_iconst (y := m_X13_relation) (pc := 65) dX13_relation_65 kc_iconst_1 ?_
    refine sn_invV (y := m_X13_relation) (pc := 66) ca_11 (av := [vA r6, vI (irem (p2 + p3) r7), vI p4, vI (1 : Int32)]) (o := p0) (st := []) dX13_relation_66 lk_X13_353 im_X13_jacobiRow se_X13_jacobiRow rfl rfl rfl rfl ⟨by decide, by decide⟩ (c_X13_jacobiRow cx.1 p0 r6 (irem (p2 + p3) r7) p4 (1 : Int32)) (fun _ => ?_)
    refine sn_aload_n (y := m_X13_relation) (pc := 69) dX13_relation_69 rfl ?_
    refine sn_aload (y := m_X13_relation) (pc := 70) dX13_relation_70 rfl ?_
    refine sn_iconst (y := m_X13_relation) (pc := 72) dX13_relation_72 kc_iconst_0 ?_
    refine sn_iconst (y := m_X13_relation) (pc := 73) dX13_relation_73 kc_iconst_1 ?_
    refine sn_iconst (y := m_X13_relation) (pc := 74) dX13_relation_74 kc_iconst_2 ?_
    refine sn_invV (y := m_X13_relation) (pc := 75) ca_11 (av := [vA r6, vI (0 : Int32), vI (1 : Int32), vI (2 : Int32)]) (o := p0) (st := []) dX13_relation_75 lk_X13_334 im_X13_multiply se_X13_multiply rfl rfl rfl rfl ⟨by decide, by decide⟩ (c_X13_multiply cx.1 p0 r6 (0 : Int32) (1 : Int32) (2 : Int32)) (fun _ => ?_)
    refine sn_aload_n (y := m_X13_relation) (pc := 78) dX13_relation_78 rfl ?_
    refine sn_aload (y := m_X13_relation) (pc := 79) dX13_relation_79 rfl ?_
    refine sn_iload_n (y := m_X13_relation) (pc := 81) dX13_relation_81 rfl ?_
    refine sn_iload (y := m_X13_relation) (pc := 82) dX13_relation_82 rfl ?_
    refine sn_iconst (y := m_X13_relation) (pc := 84) dX13_relation_84 kc_iconst_0 ?_
    refine sn_invV (y := m_X13_relation) (pc := 85) ca_11 (av := [vA r6, vI p3, vI p4, vI (0 : Int32)]) (o := p0) (st := []) dX13_relation_85 lk_X13_353 im_X13_jacobiRow se_X13_jacobiRow rfl rfl rfl rfl ⟨by decide, by decide⟩ (c_X13_jacobiRow cx.1 p0 r6 p3 p4 (0 : Int32)) (fun _ => ?_)
    refine sn_aload_n (y := m_X13_relation) (pc := 88) dX13_relation_88 rfl ?_
    refine sn_aload (y := m_X13_relation) (pc := 89) dX13_relation_89 rfl ?_
    refine sn_iload_n (y := m_X13_relation) (pc := 91) dX13_relation_91 rfl ?_
    refine sn_iload_n (y := m_X13_relation) (pc := 92) dX13_relation_92 rfl ?_
    refine sn_iload (y := m_X13_relation) (pc := 93) dX13_relation_93 rfl ?_
    refine sn_iadd (y := m_X13_relation) (pc := 95) dX13_relation_95 ?_
    refine sn_aload (y := m_X13_relation) (pc := 96) dX13_relation_96 rfl ?_
    refine sn_getI (y := m_X13_relation) (pc := 98) ca_10 rfl fk_X13_59 (fun _ _ _ => rfl) dX13_relation_98 (fun r8 => ?_)
    refine sn_irem (y := m_X13_relation) (pc := 101) dX13_relation_101 ?_
    refine sn_iconst (y := m_X13_relation) (pc := 102) dX13_relation_102 kc_iconst_1 ?_
    refine sn_invV (y := m_X13_relation) (pc := 103) ca_11 (av := [vA r6, vI p2, vI (irem (p3 + p4) r8), vI (1 : Int32)]) (o := p0) (st := []) dX13_relation_103 lk_X13_353 im_X13_jacobiRow se_X13_jacobiRow rfl rfl rfl rfl ⟨by decide, by decide⟩ (c_X13_jacobiRow cx.1 p0 r6 p2 (irem (p3 + p4) r8) (1 : Int32)) (fun _ => ?_)
    refine sn_aload_n (y := m_X13_relation) (pc := 106) dX13_relation_106 rfl ?_
    refine sn_aload (y := m_X13_relation) (pc := 107) dX13_relation_107 rfl ?_
    refine sn_iconst (y := m_X13_relation) (pc := 109) dX13_relation_109 kc_iconst_0 ?_
    refine sn_iconst (y := m_X13_relation) (pc := 110) dX13_relation_110 kc_iconst_1 ?_
    refine sn_iconst (y := m_X13_relation) (pc := 111) dX13_relation_111 kc_iconst_3 ?_
    refine sn_invV (y := m_X13_relation) (pc := 112) ca_11 (av := [vA r6, vI (0 : Int32), vI (1 : Int32), vI (3 : Int32)]) (o := p0) (st := []) dX13_relation_112 lk_X13_334 im_X13_multiply se_X13_multiply rfl rfl rfl rfl ⟨by decide, by decide⟩ (c_X13_multiply cx.1 p0 r6 (0 : Int32) (1 : Int32) (3 : Int32)) (fun _ => ?_)
    refine sn_aload_n (y := m_X13_relation) (pc := 115) dX13_relation_115 rfl ?_
    refine sn_aload_n (y := m_X13_relation) (pc := 116) dX13_relation_116 rfl ?_
    refine sn_iconst (y := m_X13_relation) (pc := 117) dX13_relation_117 kc_iconst_2 ?_
    refine sn_iconst (y := m_X13_relation) (pc := 118) dX13_relation_118 kc_iconst_3 ?_
    refine sn_invV (y := m_X13_relation) (pc := 119) ca_11 (av := [vI (2 : Int32), vI (3 : Int32)]) (o := p0) (st := [vA p0]) dX13_relation_119 lk_X13_397 im_X13_areAlike se_X13_areAlike rfl rfl rfl rfl ⟨by decide, by decide⟩ (c_X13_areAlike cx.1 p0 (2 : Int32) (3 : Int32)) (fun r9 => ?_)
    refine sn_if_eq (y := m_X13_relation) (pc := 122) (tgt := 129) dX13_relation_122 (by decide) (fun _ => ?_) (fun _ => ?_)
    · refine sn_iconst (y := m_X13_relation) (pc := 129) dX13_relation_129 kc_iconst_0 ?_
      refine sn_invV (y := m_X13_relation) (pc := 130) ca_11 (av := [vI (0 : Int32)]) (o := p0) (st := []) dX13_relation_130 lk_X13_56 im_X13_good se_X13_good rfl rfl rfl rfl ⟨by decide, by decide⟩ (c_X13_good cx.1 p0 (0 : Int32)) (fun r10 => ?_)
      exact sn_ireturn rfl dX13_relation_133
    refine sn_iconst (y := m_X13_relation) (pc := 125) dX13_relation_125 kc_iconst_1 ?_
    refine sn_goto (y := m_X13_relation) (pc := 126) (tgt := 130) dX13_relation_126 (by decide) ?_
    refine sn_invV (y := m_X13_relation) (pc := 130) ca_11 (av := [vI (1 : Int32)]) (o := p0) (st := []) dX13_relation_130 lk_X13_56 im_X13_good se_X13_good rfl rfl rfl rfl ⟨by decide, by decide⟩ (c_X13_good cx.1 p0 (1 : Int32)) (fun r11 => ?_)
    exact sn_ireturn rfl dX13_relation_133
  refine sn_aload_n (y := m_X13_relation) (pc := 25) dX13_relation_25 rfl ?_
  refine sn_iconst (y := m_X13_relation) (pc := 26) dX13_relation_26 kc_iconst_1 ?_
  refine sn_invV (y := m_X13_relation) (pc := 27) ca_11 (av := [vI (1 : Int32)]) (o := p0) (st := []) dX13_relation_27 lk_X13_52 im_X13_refused se_X13_refused rfl rfl rfl rfl ⟨by decide, by decide⟩ (c_X13_refused cx.1 p0 (1 : Int32)) (fun r12 => ?_)
  exact sn_ireturn rfl dX13_relation_30
set_option maxRecDepth 100000 in
theorem c_X13_relation (g : Gl) (p0 : (Option Nat)) (p1 : Int32) (p2 : Int32) (p3 : Int32) (p4 : Int32) : Cn g m_X13_relation eI [vA p0, vI p1, vI p2, vI p3, vI p4] (mCk 11 p0 (f_X13_relation p0 p1 p2 p3 p4)) := cn_of_sn (by decide +kernel) rfl (fun r => ⟨r, rfl⟩) rfl (fun _ _ => sn_ck (s_X13_relation p0 p1 p2 p3 p4))
/-! X13_part -/
def f_X13_part (p0 : (Option Nat)) (p1 : Int32) (p2 : Int32) (p3 : Int32) (p4 : Int32) : Mo Int32 :=
  mBd (mPutI 11 0 p0 (0 : Int32)) (fun _ => mBd (mCk 11 p0 (f_X13_areOrders p0 p1 p2 p3)) (fun r1 => (if ¬ r1 = 0 then mBd (mGetA 11 3 p0) (fun r2 => mBd (mGetA 9 4 r2) (fun r3 => mBd (mLdA 7 r3 p1) (fun r4 => mBd (mCk 10 r4 (f_X12_isUnit r4 p4)) (fun r5 => (if ¬ r5 = 0 then mBd (mGetA 11 3 p0) (fun r6 => mBd (mGetA 9 4 r6) (fun r7 => mBd (mLdA 7 r7 p1) (fun r8 => mBd (mCk 11 p0 (f_X13_jacobiRow p0 r8 p2 p3 (0 : Int32))) (fun _ => mBd (mGetA 11 3 p0) (fun r9 => mBd (mGetA 9 4 r9) (fun r10 => mBd (mLdA 7 r10 p1) (fun r11 => mBd (mCk 11 p0 (f_X13_partOf p0 r11 (0 : Int32) p4)) (fun r12 => mBd (mCk 11 p0 (f_X13_good p0 r12)) (fun r13 => mRt r13))))))))) else mBd (mCk 11 p0 (f_X13_refused p0 (2 : Int32))) (fun r14 => mRt r14)))))) else mBd (mCk 11 p0 (f_X13_refused p0 (1 : Int32))) (fun r15 => mRt r15))))
set_option maxRecDepth 100000 in
theorem s_X13_part {cx : CX} (p0 : (Option Nat)) (p1 : Int32) (p2 : Int32) (p3 : Int32) (p4 : Int32) : Sn cx m_X13_part eI 0 [(0, vA p0), (1, vI p1), (2, vI p2), (3, vI p3), (4, vI p4)] [] (f_X13_part p0 p1 p2 p3 p4) := by
  refine sn_aload_n (y := m_X13_part) (pc := 0) dX13_part_0 rfl ?_
  refine sn_iconst (y := m_X13_part) (pc := 1) dX13_part_1 kc_iconst_0 ?_
  refine sn_putI (y := m_X13_part) (pc := 2) ca_11 rfl fk_X13_46 (Or.inl rfl) rfl dX13_part_2 ?_
  refine sn_aload_n (y := m_X13_part) (pc := 5) dX13_part_5 rfl ?_
  refine sn_iload_n (y := m_X13_part) (pc := 6) dX13_part_6 rfl ?_
  refine sn_iload_n (y := m_X13_part) (pc := 7) dX13_part_7 rfl ?_
  refine sn_iload_n (y := m_X13_part) (pc := 8) dX13_part_8 rfl ?_
  refine sn_invV (y := m_X13_part) (pc := 9) ca_11 (av := [vI p1, vI p2, vI p3]) (o := p0) (st := []) dX13_part_9 lk_X13_388 im_X13_areOrders se_X13_areOrders rfl rfl rfl rfl ⟨by decide, by decide⟩ (c_X13_areOrders cx.1 p0 p1 p2 p3) (fun r1 => ?_)
  refine sn_if_ne (y := m_X13_part) (pc := 12) (tgt := 21) dX13_part_12 (by decide) (fun _ => ?_) (fun _ => ?_)
  · refine sn_aload_n (y := m_X13_part) (pc := 21) dX13_part_21 rfl ?_
    refine sn_getA (y := m_X13_part) (pc := 22) ca_11 rfl fk_X13_369 (fun _ _ _ => rfl) dX13_part_22 (fun r2 => ?_)
    refine sn_getA (y := m_X13_part) (pc := 25) ca_9 rfl fk_X13_259 (fun _ _ _ => rfl) dX13_part_25 (fun r3 => ?_)
    refine sn_iload_n (y := m_X13_part) (pc := 28) dX13_part_28 rfl ?_
    refine sn_aaload (y := m_X13_part) (pc := 29) dX13_part_29 (fun r4 => ?_)
    refine sn_iload (y := m_X13_part) (pc := 30) dX13_part_30 rfl ?_
    refine sn_invV (y := m_X13_part) (pc := 32) ca_10 (av := [vI p4]) (o := r4) (st := []) dX13_part_32 lk_X13_347 im_X12_isUnit se_X12_isUnit rfl rfl rfl rfl ⟨by decide, by decide⟩ (c_X12_isUnit cx.1 r4 p4) (fun r5 => ?_)
    refine sn_if_ne (y := m_X13_part) (pc := 35) (tgt := 44) dX13_part_35 (by decide) (fun _ => ?_) (fun _ => ?_)
    · refine sn_aload_n (y := m_X13_part) (pc := 44) dX13_part_44 rfl ?_
      refine sn_aload_n (y := m_X13_part) (pc := 45) dX13_part_45 rfl ?_
      refine sn_getA (y := m_X13_part) (pc := 46) ca_11 rfl fk_X13_369 (fun _ _ _ => rfl) dX13_part_46 (fun r6 => ?_)
      refine sn_getA (y := m_X13_part) (pc := 49) ca_9 rfl fk_X13_259 (fun _ _ _ => rfl) dX13_part_49 (fun r7 => ?_)
      refine sn_iload_n (y := m_X13_part) (pc := 52) dX13_part_52 rfl ?_
      refine sn_aaload (y := m_X13_part) (pc := 53) dX13_part_53 (fun r8 => ?_)
      refine sn_iload_n (y := m_X13_part) (pc := 54) dX13_part_54 rfl ?_
      refine sn_iload_n (y := m_X13_part) (pc := 55) dX13_part_55 rfl ?_
      refine sn_iconst (y := m_X13_part) (pc := 56) dX13_part_56 kc_iconst_0 ?_
      refine sn_invV (y := m_X13_part) (pc := 57) ca_11 (av := [vA r8, vI p2, vI p3, vI (0 : Int32)]) (o := p0) (st := []) dX13_part_57 lk_X13_353 im_X13_jacobiRow se_X13_jacobiRow rfl rfl rfl rfl ⟨by decide, by decide⟩ (c_X13_jacobiRow cx.1 p0 r8 p2 p3 (0 : Int32)) (fun _ => ?_)
      refine sn_aload_n (y := m_X13_part) (pc := 60) dX13_part_60 rfl ?_
      refine sn_aload_n (y := m_X13_part) (pc := 61) dX13_part_61 rfl ?_
      refine sn_aload_n (y := m_X13_part) (pc := 62) dX13_part_62 rfl ?_
      refine sn_getA (y := m_X13_part) (pc := 63) ca_11 rfl fk_X13_369 (fun _ _ _ => rfl) dX13_part_63 (fun r9 => ?_)
      refine sn_getA (y := m_X13_part) (pc := 66) ca_9 rfl fk_X13_259 (fun _ _ _ => rfl) dX13_part_66 (fun r10 => ?_)
      refine sn_iload_n (y := m_X13_part) (pc := 69) dX13_part_69 rfl ?_
      refine sn_aaload (y := m_X13_part) (pc := 70) dX13_part_70 (fun r11 => ?_)
      refine sn_iconst (y := m_X13_part) (pc := 71) dX13_part_71 kc_iconst_0 ?_
      refine sn_iload (y := m_X13_part) (pc := 72) dX13_part_72 rfl ?_
      refine sn_invV (y := m_X13_part) (pc := 74) ca_11 (av := [vA r11, vI (0 : Int32), vI p4]) (o := p0) (st := [vA p0]) dX13_part_74 lk_X13_400 im_X13_partOf se_X13_partOf rfl rfl rfl rfl ⟨by decide, by decide⟩ (c_X13_partOf cx.1 p0 r11 (0 : Int32) p4) (fun r12 => ?_)
      refine sn_invV (y := m_X13_part) (pc := 77) ca_11 (av := [vI r12]) (o := p0) (st := []) dX13_part_77 lk_X13_56 im_X13_good se_X13_good rfl rfl rfl rfl ⟨by decide, by decide⟩ (c_X13_good cx.1 p0 r12) (fun r13 => ?_)
      exact sn_ireturn rfl dX13_part_80
    refine sn_aload_n (y := m_X13_part) (pc := 38) dX13_part_38 rfl ?_
    refine sn_iconst (y := m_X13_part) (pc := 39) dX13_part_39 kc_iconst_2 ?_
    refine sn_invV (y := m_X13_part) (pc := 40) ca_11 (av := [vI (2 : Int32)]) (o := p0) (st := []) dX13_part_40 lk_X13_52 im_X13_refused se_X13_refused rfl rfl rfl rfl ⟨by decide, by decide⟩ (c_X13_refused cx.1 p0 (2 : Int32)) (fun r14 => ?_)
    exact sn_ireturn rfl dX13_part_43
  refine sn_aload_n (y := m_X13_part) (pc := 15) dX13_part_15 rfl ?_
  refine sn_iconst (y := m_X13_part) (pc := 16) dX13_part_16 kc_iconst_1 ?_
  refine sn_invV (y := m_X13_part) (pc := 17) ca_11 (av := [vI (1 : Int32)]) (o := p0) (st := []) dX13_part_17 lk_X13_52 im_X13_refused se_X13_refused rfl rfl rfl rfl ⟨by decide, by decide⟩ (c_X13_refused cx.1 p0 (1 : Int32)) (fun r15 => ?_)
  exact sn_ireturn rfl dX13_part_20
set_option maxRecDepth 100000 in
theorem c_X13_part (g : Gl) (p0 : (Option Nat)) (p1 : Int32) (p2 : Int32) (p3 : Int32) (p4 : Int32) : Cn g m_X13_part eI [vA p0, vI p1, vI p2, vI p3, vI p4] (mCk 11 p0 (f_X13_part p0 p1 p2 p3 p4)) := cn_of_sn (by decide +kernel) rfl (fun r => ⟨r, rfl⟩) rfl (fun _ _ => sn_ck (s_X13_part p0 p1 p2 p3 p4))
/-! X13_law -/
def f_X13_law (p0 : (Option Nat)) (p1 : Int32) (p2 : Int32) (p3 : Int32) (p4 : Int32) : Mo Int32 :=
  mBd (mPutI 11 0 p0 (0 : Int32)) (fun _ => mBd (mCk 11 p0 (f_X13_areOrders p0 p1 p2 p3)) (fun r1 => (if ¬ r1 = 0 then mBd (mGetA 11 3 p0) (fun r2 => mBd (mGetA 9 4 r2) (fun r3 => mBd (mLdA 7 r3 p1) (fun r4 => mBd (mCk 10 r4 (f_X12_isUnit r4 p4)) (fun r5 => (if ¬ r5 = 0 then (if p2 = 0 then mBd (mCk 11 p0 (f_X13_refused p0 (5 : Int32))) (fun r6 => mRt r6) else (if p3 = 0 then mBd (mCk 11 p0 (f_X13_refused p0 (5 : Int32))) (fun r7 => mRt r7) else mBd (mGetI 10 1 r4) (fun r8 => mRq (¬ r8 = 0) ((if ¬ (irem (p2 + p3) r8) = 0 then mBd (mGetI 10 1 r4) (fun r9 => mRq (¬ r9 = 0) (mBd (mGetI 10 1 r4) (fun r10 => mRq (¬ r10 = 0) (mBd (mGetI 10 1 r4) (fun r11 => (if ((irem (p4 * p2) r9) + (irem (p4 * p3) r10)) ≥ r11 then mBd (mCk 11 p0 (f_X13_good p0 (0 : Int32))) (fun r12 => mRt r12) else mBd (mCk 11 p0 (f_X13_good p0 (1 : Int32))) (fun r13 => mRt r13))))))) else mBd (mCk 11 p0 (f_X13_refused p0 (5 : Int32))) (fun r14 => mRt r14)))))) else mBd (mCk 11 p0 (f_X13_refused p0 (2 : Int32))) (fun r15 => mRt r15)))))) else mBd (mCk 11 p0 (f_X13_refused p0 (1 : Int32))) (fun r16 => mRt r16))))
set_option maxRecDepth 100000 in
theorem s_X13_law {cx : CX} (p0 : (Option Nat)) (p1 : Int32) (p2 : Int32) (p3 : Int32) (p4 : Int32) : Sn cx m_X13_law eI 0 [(0, vA p0), (1, vI p1), (2, vI p2), (3, vI p3), (4, vI p4)] [] (f_X13_law p0 p1 p2 p3 p4) := by
  refine sn_aload_n (y := m_X13_law) (pc := 0) dX13_law_0 rfl ?_
  refine sn_iconst (y := m_X13_law) (pc := 1) dX13_law_1 kc_iconst_0 ?_
  refine sn_putI (y := m_X13_law) (pc := 2) ca_11 rfl fk_X13_46 (Or.inl rfl) rfl dX13_law_2 ?_
  refine sn_aload_n (y := m_X13_law) (pc := 5) dX13_law_5 rfl ?_
  refine sn_iload_n (y := m_X13_law) (pc := 6) dX13_law_6 rfl ?_
  refine sn_iload_n (y := m_X13_law) (pc := 7) dX13_law_7 rfl ?_
  refine sn_iload_n (y := m_X13_law) (pc := 8) dX13_law_8 rfl ?_
  refine sn_invV (y := m_X13_law) (pc := 9) ca_11 (av := [vI p1, vI p2, vI p3]) (o := p0) (st := []) dX13_law_9 lk_X13_388 im_X13_areOrders se_X13_areOrders rfl rfl rfl rfl ⟨by decide, by decide⟩ (c_X13_areOrders cx.1 p0 p1 p2 p3) (fun r1 => ?_)
  refine sn_if_ne (y := m_X13_law) (pc := 12) (tgt := 21) dX13_law_12 (by decide) (fun _ => ?_) (fun _ => ?_)
  · refine sn_aload_n (y := m_X13_law) (pc := 21) dX13_law_21 rfl ?_
    refine sn_getA (y := m_X13_law) (pc := 22) ca_11 rfl fk_X13_369 (fun _ _ _ => rfl) dX13_law_22 (fun r2 => ?_)
    refine sn_getA (y := m_X13_law) (pc := 25) ca_9 rfl fk_X13_259 (fun _ _ _ => rfl) dX13_law_25 (fun r3 => ?_)
    refine sn_iload_n (y := m_X13_law) (pc := 28) dX13_law_28 rfl ?_
    refine sn_aaload (y := m_X13_law) (pc := 29) dX13_law_29 (fun r4 => ?_)
    refine sn_astore (y := m_X13_law) (pc := 30) dX13_law_30 rfl ?_
    refine sn_aload (y := m_X13_law) (pc := 32) dX13_law_32 rfl ?_
    refine sn_iload (y := m_X13_law) (pc := 34) dX13_law_34 rfl ?_
    refine sn_invV (y := m_X13_law) (pc := 36) ca_10 (av := [vI p4]) (o := r4) (st := []) dX13_law_36 lk_X13_347 im_X12_isUnit se_X12_isUnit rfl rfl rfl rfl ⟨by decide, by decide⟩ (c_X12_isUnit cx.1 r4 p4) (fun r5 => ?_)
    refine sn_if_ne (y := m_X13_law) (pc := 39) (tgt := 48) dX13_law_39 (by decide) (fun _ => ?_) (fun _ => ?_)
    · refine sn_iload_n (y := m_X13_law) (pc := 48) dX13_law_48 rfl ?_
      refine sn_if_eq (y := m_X13_law) (pc := 49) (tgt := 68) dX13_law_49 (by decide) (fun _ => ?_) (fun _ => ?_)
      · refine sn_aload_n (y := m_X13_law) (pc := 68) dX13_law_68 rfl ?_
        refine sn_iconst (y := m_X13_law) (pc := 69) dX13_law_69 kc_iconst_5 ?_
        refine sn_invV (y := m_X13_law) (pc := 70) ca_11 (av := [vI (5 : Int32)]) (o := p0) (st := []) dX13_law_70 lk_X13_52 im_X13_refused se_X13_refused rfl rfl rfl rfl ⟨by decide, by decide⟩ (c_X13_refused cx.1 p0 (5 : Int32)) (fun r6 => ?_)
        exact sn_ireturn rfl dX13_law_73
      refine sn_iload_n (y := m_X13_law) (pc := 52) dX13_law_52 rfl ?_
      refine sn_if_eq (y := m_X13_law) (pc := 53) (tgt := 68) dX13_law_53 (by decide) (fun _ => ?_) (fun _ => ?_)
      · refine sn_aload_n (y := m_X13_law) (pc := 68) dX13_law_68 rfl ?_
        refine sn_iconst (y := m_X13_law) (pc := 69) dX13_law_69 kc_iconst_5 ?_
        refine sn_invV (y := m_X13_law) (pc := 70) ca_11 (av := [vI (5 : Int32)]) (o := p0) (st := []) dX13_law_70 lk_X13_52 im_X13_refused se_X13_refused rfl rfl rfl rfl ⟨by decide, by decide⟩ (c_X13_refused cx.1 p0 (5 : Int32)) (fun r7 => ?_)
        exact sn_ireturn rfl dX13_law_73
      refine sn_iload_n (y := m_X13_law) (pc := 56) dX13_law_56 rfl ?_
      refine sn_iload_n (y := m_X13_law) (pc := 57) dX13_law_57 rfl ?_
      refine sn_iadd (y := m_X13_law) (pc := 58) dX13_law_58 ?_
      refine sn_aload (y := m_X13_law) (pc := 59) dX13_law_59 rfl ?_
      refine sn_getI (y := m_X13_law) (pc := 61) ca_10 rfl fk_X13_59 (fun _ _ _ => rfl) dX13_law_61 (fun r8 => ?_)
      refine sn_irem (y := m_X13_law) (pc := 64) dX13_law_64 ?_
      refine sn_if_ne (y := m_X13_law) (pc := 65) (tgt := 74) dX13_law_65 (by decide) (fun _ => ?_) (fun _ => ?_)
      · refine sn_aload_n (y := m_X13_law) (pc := 74) dX13_law_74 rfl ?_
        refine sn_iload (y := m_X13_law) (pc := 75) dX13_law_75 rfl ?_
        refine sn_iload_n (y := m_X13_law) (pc := 77) dX13_law_77 rfl ?_
        refine sn_imul (y := m_X13_law) (pc := 78) dX13_law_78 ?_
        refine sn_aload (y := m_X13_law) (pc := 79) dX13_law_79 rfl ?_
        refine sn_getI (y := m_X13_law) (pc := 81) ca_10 rfl fk_X13_59 (fun _ _ _ => rfl) dX13_law_81 (fun r9 => ?_)
        refine sn_irem (y := m_X13_law) (pc := 84) dX13_law_84 ?_
        refine sn_iload (y := m_X13_law) (pc := 85) dX13_law_85 rfl ?_
        refine sn_iload_n (y := m_X13_law) (pc := 87) dX13_law_87 rfl ?_
        refine sn_imul (y := m_X13_law) (pc := 88) dX13_law_88 ?_
        refine sn_aload (y := m_X13_law) (pc := 89) dX13_law_89 rfl ?_
        refine sn_getI (y := m_X13_law) (pc := 91) ca_10 rfl fk_X13_59 (fun _ _ _ => rfl) dX13_law_91 (fun r10 => ?_)
        refine sn_irem (y := m_X13_law) (pc := 94) dX13_law_94 ?_
        refine sn_iadd (y := m_X13_law) (pc := 95) dX13_law_95 ?_
        refine sn_aload (y := m_X13_law) (pc := 96) dX13_law_96 rfl ?_
        refine sn_getI (y := m_X13_law) (pc := 98) ca_10 rfl fk_X13_59 (fun _ _ _ => rfl) dX13_law_98 (fun r11 => ?_)
        refine sn_icmp_ge (y := m_X13_law) (pc := 101) (tgt := 108) dX13_law_101 (by decide) (fun _ => ?_) (fun _ => ?_)
        · refine sn_iconst (y := m_X13_law) (pc := 108) dX13_law_108 kc_iconst_0 ?_
          refine sn_invV (y := m_X13_law) (pc := 109) ca_11 (av := [vI (0 : Int32)]) (o := p0) (st := []) dX13_law_109 lk_X13_56 im_X13_good se_X13_good rfl rfl rfl rfl ⟨by decide, by decide⟩ (c_X13_good cx.1 p0 (0 : Int32)) (fun r12 => ?_)
          exact sn_ireturn rfl dX13_law_112
        refine sn_iconst (y := m_X13_law) (pc := 104) dX13_law_104 kc_iconst_1 ?_
        refine sn_goto (y := m_X13_law) (pc := 105) (tgt := 109) dX13_law_105 (by decide) ?_
        refine sn_invV (y := m_X13_law) (pc := 109) ca_11 (av := [vI (1 : Int32)]) (o := p0) (st := []) dX13_law_109 lk_X13_56 im_X13_good se_X13_good rfl rfl rfl rfl ⟨by decide, by decide⟩ (c_X13_good cx.1 p0 (1 : Int32)) (fun r13 => ?_)
        exact sn_ireturn rfl dX13_law_112
      refine sn_aload_n (y := m_X13_law) (pc := 68) dX13_law_68 rfl ?_
      refine sn_iconst (y := m_X13_law) (pc := 69) dX13_law_69 kc_iconst_5 ?_
      refine sn_invV (y := m_X13_law) (pc := 70) ca_11 (av := [vI (5 : Int32)]) (o := p0) (st := []) dX13_law_70 lk_X13_52 im_X13_refused se_X13_refused rfl rfl rfl rfl ⟨by decide, by decide⟩ (c_X13_refused cx.1 p0 (5 : Int32)) (fun r14 => ?_)
      exact sn_ireturn rfl dX13_law_73
    refine sn_aload_n (y := m_X13_law) (pc := 42) dX13_law_42 rfl ?_
    refine sn_iconst (y := m_X13_law) (pc := 43) dX13_law_43 kc_iconst_2 ?_
    refine sn_invV (y := m_X13_law) (pc := 44) ca_11 (av := [vI (2 : Int32)]) (o := p0) (st := []) dX13_law_44 lk_X13_52 im_X13_refused se_X13_refused rfl rfl rfl rfl ⟨by decide, by decide⟩ (c_X13_refused cx.1 p0 (2 : Int32)) (fun r15 => ?_)
    exact sn_ireturn rfl dX13_law_47
  refine sn_aload_n (y := m_X13_law) (pc := 15) dX13_law_15 rfl ?_
  refine sn_iconst (y := m_X13_law) (pc := 16) dX13_law_16 kc_iconst_1 ?_
  refine sn_invV (y := m_X13_law) (pc := 17) ca_11 (av := [vI (1 : Int32)]) (o := p0) (st := []) dX13_law_17 lk_X13_52 im_X13_refused se_X13_refused rfl rfl rfl rfl ⟨by decide, by decide⟩ (c_X13_refused cx.1 p0 (1 : Int32)) (fun r16 => ?_)
  exact sn_ireturn rfl dX13_law_20
set_option maxRecDepth 100000 in
theorem c_X13_law (g : Gl) (p0 : (Option Nat)) (p1 : Int32) (p2 : Int32) (p3 : Int32) (p4 : Int32) : Cn g m_X13_law eI [vA p0, vI p1, vI p2, vI p3, vI p4] (mCk 11 p0 (f_X13_law p0 p1 p2 p3 p4)) := cn_of_sn (by decide +kernel) rfl (fun r => ⟨r, rfl⟩) rfl (fun _ _ => sn_ck (s_X13_law p0 p1 p2 p3 p4))
/-! X13_parts -/
def f_X13_parts_j85 (k47 : Int32 → Int32 → Mo Int32) (x0 : (Option Nat)) (x4 : (Option Nat)) (x6 : Int32) (s0 : Int32) : Mo Int32 :=
  mNm (s0 + (0 : Int32)) (fun n8 => k47 n8 (x6 + 1))
set_option maxRecDepth 100000 in
theorem s_X13_parts_j85 {cx : CX} {k47 : Int32 → Int32 → Mo Int32} (x0 : (Option Nat)) (x4 : (Option Nat)) (x6 : Int32) (s0 : Int32) (hk47 : ∀ (z5 : Int32) (z6 : Int32), Sn cx m_X13_parts eI 47 [(5, vI z5), (6, vI z6), (0, vA x0), (4, vA x4)] [] (k47 z5 z6)) : Sn cx m_X13_parts eI 85 [(0, vA x0), (4, vA x4), (6, vI x6)] [vI s0] (f_X13_parts_j85 k47 x0 x4 x6 s0) := by
  refine sn_iconst (y := m_X13_parts) (pc := 85) dX13_parts_85 kc_iconst_0 ?_
  refine sn_iadd (y := m_X13_parts) (pc := 86) dX13_parts_86 ?_
  refine sn_istoreM (y := m_X13_parts) (pc := 87) dX13_parts_87 rfl (fun n8 => ?_)
  refine sn_iinc (y := m_X13_parts) (pc := 89) (v := x6 + 1) dX13_parts_89 rfl (by rfl) rfl ?_
  refine sn_goto (y := m_X13_parts) (pc := 92) (tgt := 47) dX13_parts_92 (by decide) ?_
  exact sn_sub rfl (hk47 n8 (x6 + 1))
def f_X13_parts_b47 (x0 : (Option Nat)) (x4 : (Option Nat)) (k47 : Int32 → Int32 → Mo Int32) (x5 : Int32) (x6 : Int32) : Mo Int32 :=
  mBd (mGetI 10 1 x4) (fun r5 => (if x6 ≥ r5 then mBd (mCk 11 x0 (f_X13_good x0 x5)) (fun r6 => mRt r6) else mBd (mCk 10 x4 (f_X12_isUnit x4 x6)) (fun r7 => (if r7 = 0 then f_X13_parts_j85 k47 x0 x4 x6 x5 else mBd (mCk 11 x0 (f_X13_partOf x0 x4 (0 : Int32) x6)) (fun r9 => (if ¬ r9 = 0 then f_X13_parts_j85 k47 x0 x4 x6 x5 else mNm (x5 + (1 : Int32)) (fun n10 => k47 n10 (x6 + 1))))))))
def f_X13_parts_l47 (x0 : (Option Nat)) (x4 : (Option Nat)) : Int32 → Int32 → Mo Int32 := lq2 (f_X13_parts_b47 x0 x4) fuel
set_option maxRecDepth 100000 in
theorem s_X13_parts_b47 {cx : CX} (x0 : (Option Nat)) (x4 : (Option Nat)) {k47 : Int32 → Int32 → Mo Int32} (hk47 : ∀ (z5 : Int32) (z6 : Int32), Sn cx m_X13_parts eI 47 [(5, vI z5), (6, vI z6), (0, vA x0), (4, vA x4)] [] (k47 z5 z6)) (x5 : Int32) (x6 : Int32) : Sn cx m_X13_parts eI 47 [(5, vI x5), (6, vI x6), (0, vA x0), (4, vA x4)] [] (f_X13_parts_b47 x0 x4 k47 x5 x6) := by
  refine sn_iload (y := m_X13_parts) (pc := 47) dX13_parts_47 rfl ?_
  refine sn_aload (y := m_X13_parts) (pc := 49) dX13_parts_49 rfl ?_
  refine sn_getI (y := m_X13_parts) (pc := 51) ca_10 rfl fk_X13_59 (fun _ _ _ => rfl) dX13_parts_51 (fun r5 => ?_)
  refine sn_icmp_ge (y := m_X13_parts) (pc := 54) (tgt := 95) dX13_parts_54 (by decide) (fun _ => ?_) (fun _ => ?_)
  · refine sn_aload_n (y := m_X13_parts) (pc := 95) dX13_parts_95 rfl ?_
    refine sn_iload (y := m_X13_parts) (pc := 96) dX13_parts_96 rfl ?_
    refine sn_invV (y := m_X13_parts) (pc := 98) ca_11 (av := [vI x5]) (o := x0) (st := []) dX13_parts_98 lk_X13_56 im_X13_good se_X13_good rfl rfl rfl rfl ⟨by decide, by decide⟩ (c_X13_good cx.1 x0 x5) (fun r6 => ?_)
    exact sn_ireturn rfl dX13_parts_101
  refine sn_iload (y := m_X13_parts) (pc := 57) dX13_parts_57 rfl ?_
  refine sn_aload (y := m_X13_parts) (pc := 59) dX13_parts_59 rfl ?_
  refine sn_iload (y := m_X13_parts) (pc := 61) dX13_parts_61 rfl ?_
  refine sn_invV (y := m_X13_parts) (pc := 63) ca_10 (av := [vI x6]) (o := x4) (st := [vI x5]) dX13_parts_63 lk_X13_347 im_X12_isUnit se_X12_isUnit rfl rfl rfl rfl ⟨by decide, by decide⟩ (c_X12_isUnit cx.1 x4 x6) (fun r7 => ?_)
  refine sn_if_eq (y := m_X13_parts) (pc := 66) (tgt := 85) dX13_parts_66 (by decide) (fun _ => ?_) (fun _ => ?_)
  · exact sn_sub rfl (s_X13_parts_j85 x0 x4 x6 x5 hk47)
  refine sn_aload_n (y := m_X13_parts) (pc := 69) dX13_parts_69 rfl ?_
  refine sn_aload (y := m_X13_parts) (pc := 70) dX13_parts_70 rfl ?_
  refine sn_iconst (y := m_X13_parts) (pc := 72) dX13_parts_72 kc_iconst_0 ?_
  refine sn_iload (y := m_X13_parts) (pc := 73) dX13_parts_73 rfl ?_
  refine sn_invV (y := m_X13_parts) (pc := 75) ca_11 (av := [vA x4, vI (0 : Int32), vI x6]) (o := x0) (st := [vI x5]) dX13_parts_75 lk_X13_400 im_X13_partOf se_X13_partOf rfl rfl rfl rfl ⟨by decide, by decide⟩ (c_X13_partOf cx.1 x0 x4 (0 : Int32) x6) (fun r9 => ?_)
  refine sn_if_ne (y := m_X13_parts) (pc := 78) (tgt := 85) dX13_parts_78 (by decide) (fun _ => ?_) (fun _ => ?_)
  · exact sn_sub rfl (s_X13_parts_j85 x0 x4 x6 x5 hk47)
  refine sn_iconst (y := m_X13_parts) (pc := 81) dX13_parts_81 kc_iconst_1 ?_
  refine sn_goto (y := m_X13_parts) (pc := 82) (tgt := 86) dX13_parts_82 (by decide) ?_
  refine sn_iadd (y := m_X13_parts) (pc := 86) dX13_parts_86 ?_
  refine sn_istoreM (y := m_X13_parts) (pc := 87) dX13_parts_87 rfl (fun n10 => ?_)
  refine sn_iinc (y := m_X13_parts) (pc := 89) (v := x6 + 1) dX13_parts_89 rfl (by rfl) rfl ?_
  refine sn_goto (y := m_X13_parts) (pc := 92) (tgt := 47) dX13_parts_92 (by decide) ?_
  exact sn_sub rfl (hk47 n10 (x6 + 1))
set_option maxRecDepth 100000 in
theorem s_X13_parts_l47 {cx : CX} (x0 : (Option Nat)) (x4 : (Option Nat)) (x5 : Int32) (x6 : Int32) : Sn cx m_X13_parts eI 47 [(5, vI x5), (6, vI x6), (0, vA x0), (4, vA x4)] [] (f_X13_parts_l47 x0 x4 x5 x6) :=
  sn_lq2 (L := fun x5 x6 => [(5, vI x5), (6, vI x6), (0, vA x0), (4, vA x4)]) (fun k hk x5 x6 => s_X13_parts_b47 x0 x4 hk x5 x6) fuel x5 x6
def f_X13_parts (p0 : (Option Nat)) (p1 : Int32) (p2 : Int32) (p3 : Int32) : Mo Int32 :=
  mBd (mPutI 11 0 p0 (0 : Int32)) (fun _ => mBd (mCk 11 p0 (f_X13_areOrders p0 p1 p2 p3)) (fun r1 => (if ¬ r1 = 0 then mBd (mGetA 11 3 p0) (fun r2 => mBd (mGetA 9 4 r2) (fun r3 => mBd (mLdA 7 r3 p1) (fun r4 => mBd (mCk 11 p0 (f_X13_jacobiRow p0 r4 p2 p3 (0 : Int32))) (fun _ => f_X13_parts_l47 p0 r4 (0 : Int32) (1 : Int32))))) else mBd (mCk 11 p0 (f_X13_refused p0 (1 : Int32))) (fun r11 => mRt r11))))
set_option maxRecDepth 100000 in
theorem s_X13_parts {cx : CX} (p0 : (Option Nat)) (p1 : Int32) (p2 : Int32) (p3 : Int32) : Sn cx m_X13_parts eI 0 [(0, vA p0), (1, vI p1), (2, vI p2), (3, vI p3)] [] (f_X13_parts p0 p1 p2 p3) := by
  refine sn_aload_n (y := m_X13_parts) (pc := 0) dX13_parts_0 rfl ?_
  refine sn_iconst (y := m_X13_parts) (pc := 1) dX13_parts_1 kc_iconst_0 ?_
  refine sn_putI (y := m_X13_parts) (pc := 2) ca_11 rfl fk_X13_46 (Or.inl rfl) rfl dX13_parts_2 ?_
  refine sn_aload_n (y := m_X13_parts) (pc := 5) dX13_parts_5 rfl ?_
  refine sn_iload_n (y := m_X13_parts) (pc := 6) dX13_parts_6 rfl ?_
  refine sn_iload_n (y := m_X13_parts) (pc := 7) dX13_parts_7 rfl ?_
  refine sn_iload_n (y := m_X13_parts) (pc := 8) dX13_parts_8 rfl ?_
  refine sn_invV (y := m_X13_parts) (pc := 9) ca_11 (av := [vI p1, vI p2, vI p3]) (o := p0) (st := []) dX13_parts_9 lk_X13_388 im_X13_areOrders se_X13_areOrders rfl rfl rfl rfl ⟨by decide, by decide⟩ (c_X13_areOrders cx.1 p0 p1 p2 p3) (fun r1 => ?_)
  refine sn_if_ne (y := m_X13_parts) (pc := 12) (tgt := 21) dX13_parts_12 (by decide) (fun _ => ?_) (fun _ => ?_)
  · refine sn_aload_n (y := m_X13_parts) (pc := 21) dX13_parts_21 rfl ?_
    refine sn_getA (y := m_X13_parts) (pc := 22) ca_11 rfl fk_X13_369 (fun _ _ _ => rfl) dX13_parts_22 (fun r2 => ?_)
    refine sn_getA (y := m_X13_parts) (pc := 25) ca_9 rfl fk_X13_259 (fun _ _ _ => rfl) dX13_parts_25 (fun r3 => ?_)
    refine sn_iload_n (y := m_X13_parts) (pc := 28) dX13_parts_28 rfl ?_
    refine sn_aaload (y := m_X13_parts) (pc := 29) dX13_parts_29 (fun r4 => ?_)
    refine sn_astore (y := m_X13_parts) (pc := 30) dX13_parts_30 rfl ?_
    refine sn_aload_n (y := m_X13_parts) (pc := 32) dX13_parts_32 rfl ?_
    refine sn_aload (y := m_X13_parts) (pc := 33) dX13_parts_33 rfl ?_
    refine sn_iload_n (y := m_X13_parts) (pc := 35) dX13_parts_35 rfl ?_
    refine sn_iload_n (y := m_X13_parts) (pc := 36) dX13_parts_36 rfl ?_
    refine sn_iconst (y := m_X13_parts) (pc := 37) dX13_parts_37 kc_iconst_0 ?_
    refine sn_invV (y := m_X13_parts) (pc := 38) ca_11 (av := [vA r4, vI p2, vI p3, vI (0 : Int32)]) (o := p0) (st := []) dX13_parts_38 lk_X13_353 im_X13_jacobiRow se_X13_jacobiRow rfl rfl rfl rfl ⟨by decide, by decide⟩ (c_X13_jacobiRow cx.1 p0 r4 p2 p3 (0 : Int32)) (fun _ => ?_)
    refine sn_iconst (y := m_X13_parts) (pc := 41) dX13_parts_41 kc_iconst_0 ?_
    refine sn_istore (y := m_X13_parts) (pc := 42) dX13_parts_42 rfl ?_
    refine sn_iconst (y := m_X13_parts) (pc := 44) dX13_parts_44 kc_iconst_1 ?_
    refine sn_istore (y := m_X13_parts) (pc := 45) dX13_parts_45 rfl ?_
    exact sn_sub rfl (s_X13_parts_l47 p0 r4 (0 : Int32) (1 : Int32))
  refine sn_aload_n (y := m_X13_parts) (pc := 15) dX13_parts_15 rfl ?_
  refine sn_iconst (y := m_X13_parts) (pc := 16) dX13_parts_16 kc_iconst_1 ?_
  refine sn_invV (y := m_X13_parts) (pc := 17) ca_11 (av := [vI (1 : Int32)]) (o := p0) (st := []) dX13_parts_17 lk_X13_52 im_X13_refused se_X13_refused rfl rfl rfl rfl ⟨by decide, by decide⟩ (c_X13_refused cx.1 p0 (1 : Int32)) (fun r11 => ?_)
  exact sn_ireturn rfl dX13_parts_20
set_option maxRecDepth 100000 in
theorem c_X13_parts (g : Gl) (p0 : (Option Nat)) (p1 : Int32) (p2 : Int32) (p3 : Int32) : Cn g m_X13_parts eI [vA p0, vI p1, vI p2, vI p3] (mCk 11 p0 (f_X13_parts p0 p1 p2 p3)) := cn_of_sn (by decide +kernel) rfl (fun r => ⟨r, rfl⟩) rfl (fun _ _ => sn_ck (s_X13_parts p0 p1 p2 p3))
/-! X13_isLet -/
def f_X13_isLet (p0 : (Option Nat)) (p1 : Int32) : Mo Int32 :=
  mBd (mGetA 11 3 p0) (fun r1 => (if r1 = none then mRt (0 : Int32) else (if p1 < 0 then mRt (0 : Int32) else mBd (mGetA 11 3 p0) (fun r2 => mBd (mGetI 9 2 r2) (fun r3 => (if p1 ≥ r3 then mRt (0 : Int32) else mRt (1 : Int32)))))))
set_option maxRecDepth 100000 in
theorem s_X13_isLet {cx : CX} (p0 : (Option Nat)) (p1 : Int32) : Sn cx m_X13_isLet eI 0 [(0, vA p0), (1, vI p1)] [] (f_X13_isLet p0 p1) := by
  refine sn_aload_n (y := m_X13_isLet) (pc := 0) dX13_isLet_0 rfl ?_
  refine sn_getA (y := m_X13_isLet) (pc := 1) ca_11 rfl fk_X13_369 (fun _ _ _ => rfl) dX13_isLet_1 (fun r1 => ?_)
  refine sn_ifnull (y := m_X13_isLet) (pc := 4) (tgt := 26) dX13_isLet_4 (by decide) ?_ ?_
  · refine sn_iconst (y := m_X13_isLet) (pc := 26) dX13_isLet_26 kc_iconst_0 ?_
    exact sn_zreturnC (by decide) rfl dX13_isLet_27
  refine sn_iload_n (y := m_X13_isLet) (pc := 7) dX13_isLet_7 rfl ?_
  refine sn_if_lt (y := m_X13_isLet) (pc := 8) (tgt := 26) dX13_isLet_8 (by decide) (fun _ => ?_) (fun _ => ?_)
  · refine sn_iconst (y := m_X13_isLet) (pc := 26) dX13_isLet_26 kc_iconst_0 ?_
    exact sn_zreturnC (by decide) rfl dX13_isLet_27
  refine sn_iload_n (y := m_X13_isLet) (pc := 11) dX13_isLet_11 rfl ?_
  refine sn_aload_n (y := m_X13_isLet) (pc := 12) dX13_isLet_12 rfl ?_
  refine sn_getA (y := m_X13_isLet) (pc := 13) ca_11 rfl fk_X13_369 (fun _ _ _ => rfl) dX13_isLet_13 (fun r2 => ?_)
  refine sn_getI (y := m_X13_isLet) (pc := 16) ca_9 rfl fk_X13_301 (fun _ _ _ => rfl) dX13_isLet_16 (fun r3 => ?_)
  refine sn_icmp_ge (y := m_X13_isLet) (pc := 19) (tgt := 26) dX13_isLet_19 (by decide) (fun _ => ?_) (fun _ => ?_)
  · refine sn_iconst (y := m_X13_isLet) (pc := 26) dX13_isLet_26 kc_iconst_0 ?_
    exact sn_zreturnC (by decide) rfl dX13_isLet_27
  refine sn_iconst (y := m_X13_isLet) (pc := 22) dX13_isLet_22 kc_iconst_1 ?_
  refine sn_goto (y := m_X13_isLet) (pc := 23) (tgt := 27) dX13_isLet_23 (by decide) ?_
  exact sn_zreturnC (by decide) rfl dX13_isLet_27
set_option maxRecDepth 100000 in
theorem c_X13_isLet (g : Gl) (p0 : (Option Nat)) (p1 : Int32) : Cn g m_X13_isLet eI [vA p0, vI p1] (mCk 11 p0 (f_X13_isLet p0 p1)) := cn_of_sn (by decide +kernel) rfl (fun r => ⟨r, rfl⟩) rfl (fun _ _ => sn_ck (s_X13_isLet p0 p1))
/-! X13_fieldOf -/
def f_X13_fieldOf (p0 : (Option Nat)) (p1 : Int32) : Mo (Option Nat) :=
  mBd (mGetA 11 3 p0) (fun r1 => mBd (mGetA 9 4 r1) (fun r2 => mBd (mGetA 11 3 p0) (fun r3 => mBd (mGetA 9 10 r3) (fun r4 => mBd (mLdI 1 r4 p1) (fun r5 => mBd (mLdA 7 r2 r5) (fun r6 => mRt r6))))))
set_option maxRecDepth 100000 in
theorem s_X13_fieldOf {cx : CX} (p0 : (Option Nat)) (p1 : Int32) : Sn cx m_X13_fieldOf eA 0 [(0, vA p0), (1, vI p1)] [] (f_X13_fieldOf p0 p1) := by
  refine sn_aload_n (y := m_X13_fieldOf) (pc := 0) dX13_fieldOf_0 rfl ?_
  refine sn_getA (y := m_X13_fieldOf) (pc := 1) ca_11 rfl fk_X13_369 (fun _ _ _ => rfl) dX13_fieldOf_1 (fun r1 => ?_)
  refine sn_getA (y := m_X13_fieldOf) (pc := 4) ca_9 rfl fk_X13_259 (fun _ _ _ => rfl) dX13_fieldOf_4 (fun r2 => ?_)
  refine sn_aload_n (y := m_X13_fieldOf) (pc := 7) dX13_fieldOf_7 rfl ?_
  refine sn_getA (y := m_X13_fieldOf) (pc := 8) ca_11 rfl fk_X13_369 (fun _ _ _ => rfl) dX13_fieldOf_8 (fun r3 => ?_)
  refine sn_getA (y := m_X13_fieldOf) (pc := 11) ca_9 rfl fk_X13_316 (fun _ _ _ => rfl) dX13_fieldOf_11 (fun r4 => ?_)
  refine sn_iload_n (y := m_X13_fieldOf) (pc := 14) dX13_fieldOf_14 rfl ?_
  refine sn_iaload (y := m_X13_fieldOf) (pc := 15) dX13_fieldOf_15 (fun r5 => ?_)
  refine sn_aaload (y := m_X13_fieldOf) (pc := 16) dX13_fieldOf_16 (fun r6 => ?_)
  exact sn_areturn (Or.inl ⟨_, rfl⟩) dX13_fieldOf_17
set_option maxRecDepth 100000 in
theorem c_X13_fieldOf (g : Gl) (p0 : (Option Nat)) (p1 : Int32) : Cn g m_X13_fieldOf eA [vA p0, vI p1] (mCk 11 p0 (f_X13_fieldOf p0 p1)) := cn_of_sn (by decide +kernel) rfl (fun r => ⟨r, rfl⟩) rfl (fun _ _ => sn_ck (s_X13_fieldOf p0 p1))
/-! X13_lets -/
def f_X13_lets_b2 (x0 : (Option Nat)) (x1 : Int32) (x2 : Int32) (k2 : Int32 → Mo Unit) (x3 : Int32) : Mo Unit :=
  (if x3 ≥ (12 : Int32) then mRt () else mBd (mGetA 11 5 x0) (fun r1 => mBd (mGetA 11 3 x0) (fun r2 => mBd (mGetA 9 11 r2) (fun r3 => mBd (mLdJ r3 (((12 : Int32) * x1) + x3)) (fun r4 => mBd (mStJ r1 ((x2 * (12 : Int32)) + x3) r4) (fun _ => k2 (x3 + 1)))))))
def f_X13_lets_l2 (x0 : (Option Nat)) (x1 : Int32) (x2 : Int32) : Int32 → Mo Unit := lq1 (f_X13_lets_b2 x0 x1 x2) fuel
set_option maxRecDepth 100000 in
theorem s_X13_lets_b2 {cx : CX} (x0 : (Option Nat)) (x1 : Int32) (x2 : Int32) {k2 : Int32 → Mo Unit} (hk2 : ∀ (z3 : Int32), Sn cx m_X13_lets eV 2 [(3, vI z3), (0, vA x0), (1, vI x1), (2, vI x2)] [] (k2 z3)) (x3 : Int32) : Sn cx m_X13_lets eV 2 [(3, vI x3), (0, vA x0), (1, vI x1), (2, vI x2)] [] (f_X13_lets_b2 x0 x1 x2 k2 x3) := by
  refine sn_iload_n (y := m_X13_lets) (pc := 2) dX13_lets_2 rfl ?_
  refine sn_bipush (y := m_X13_lets) (pc := 3) dX13_lets_3 kc_bipush_12 ?_
  refine sn_icmp_ge (y := m_X13_lets) (pc := 5) (tgt := 39) dX13_lets_5 (by decide) (fun _ => ?_) (fun _ => ?_)
  · exact sn_return rfl dX13_lets_39
  refine sn_aload_n (y := m_X13_lets) (pc := 8) dX13_lets_8 rfl ?_
  refine sn_getA (y := m_X13_lets) (pc := 9) ca_11 rfl fk_X13_13 (fun _ _ _ => rfl) dX13_lets_9 (fun r1 => ?_)
  refine sn_iload_n (y := m_X13_lets) (pc := 12) dX13_lets_12 rfl ?_
  refine sn_bipush (y := m_X13_lets) (pc := 13) dX13_lets_13 kc_bipush_12 ?_
  refine sn_imul (y := m_X13_lets) (pc := 15) dX13_lets_15 ?_
  refine sn_iload_n (y := m_X13_lets) (pc := 16) dX13_lets_16 rfl ?_
  refine sn_iadd (y := m_X13_lets) (pc := 17) dX13_lets_17 ?_
  refine sn_aload_n (y := m_X13_lets) (pc := 18) dX13_lets_18 rfl ?_
  refine sn_getA (y := m_X13_lets) (pc := 19) ca_11 rfl fk_X13_369 (fun _ _ _ => rfl) dX13_lets_19 (fun r2 => ?_)
  refine sn_getA (y := m_X13_lets) (pc := 22) ca_9 rfl fk_X13_314 (fun _ _ _ => rfl) dX13_lets_22 (fun r3 => ?_)
  refine sn_bipush (y := m_X13_lets) (pc := 25) dX13_lets_25 kc_bipush_12 ?_
  refine sn_iload_n (y := m_X13_lets) (pc := 27) dX13_lets_27 rfl ?_
  refine sn_imul (y := m_X13_lets) (pc := 28) dX13_lets_28 ?_
  refine sn_iload_n (y := m_X13_lets) (pc := 29) dX13_lets_29 rfl ?_
  refine sn_iadd (y := m_X13_lets) (pc := 30) dX13_lets_30 ?_
  refine sn_laload (y := m_X13_lets) (pc := 31) dX13_lets_31 (fun r4 => ?_)
  refine sn_lastore (y := m_X13_lets) (pc := 32) dX13_lets_32 ?_
  refine sn_iinc (y := m_X13_lets) (pc := 33) (v := x3 + 1) dX13_lets_33 rfl (by rfl) rfl ?_
  refine sn_goto (y := m_X13_lets) (pc := 36) (tgt := 2) dX13_lets_36 (by decide) ?_
  exact sn_sub rfl (hk2 (x3 + 1))
set_option maxRecDepth 100000 in
theorem s_X13_lets_l2 {cx : CX} (x0 : (Option Nat)) (x1 : Int32) (x2 : Int32) (x3 : Int32) : Sn cx m_X13_lets eV 2 [(3, vI x3), (0, vA x0), (1, vI x1), (2, vI x2)] [] (f_X13_lets_l2 x0 x1 x2 x3) :=
  sn_lq1 (L := fun x3 => [(3, vI x3), (0, vA x0), (1, vI x1), (2, vI x2)]) (fun k hk x3 => s_X13_lets_b2 x0 x1 x2 hk x3) fuel x3
def f_X13_lets (p0 : (Option Nat)) (p1 : Int32) (p2 : Int32) : Mo Unit :=
  f_X13_lets_l2 p0 p1 p2 (0 : Int32)
set_option maxRecDepth 100000 in
theorem s_X13_lets {cx : CX} (p0 : (Option Nat)) (p1 : Int32) (p2 : Int32) : Sn cx m_X13_lets eV 0 [(0, vA p0), (1, vI p1), (2, vI p2)] [] (f_X13_lets p0 p1 p2) := by
  refine sn_iconst (y := m_X13_lets) (pc := 0) dX13_lets_0 kc_iconst_0 ?_
  refine sn_istore_n (y := m_X13_lets) (pc := 1) dX13_lets_1 rfl ?_
  exact sn_sub rfl (s_X13_lets_l2 p0 p1 p2 (0 : Int32))
set_option maxRecDepth 100000 in
theorem c_X13_lets (g : Gl) (p0 : (Option Nat)) (p1 : Int32) (p2 : Int32) : Cn g m_X13_lets eV [vA p0, vI p1, vI p2] (mCk 11 p0 (f_X13_lets p0 p1 p2)) := cn_of_sn (by decide +kernel) rfl (fun _ => rfl) rfl (fun _ _ => sn_ck (s_X13_lets p0 p1 p2))
