/-! X3_takeInField -/
def f_X3_takeInField (p0 : (Option Nat)) : Mo Int32 :=
  mBd (mCk 3 p0 (f_X3_takeWord p0 (4 : Int32))) (fun r1 => (if ¬ r1 = 0 then mBd (mGetA 3 0 p0) (fun r2 => mBd (mCk 7 r2 (f_X9_atName r2)) (fun r3 => (if ¬ r3 = 0 then mBd (mGetA 3 5 p0) (fun r4 => mBd (mGetA 3 0 p0) (fun r5 => mBd (mCk 7 r5 (f_X9_nameNow r5)) (fun r6 => mBd (mCk 0 r4 (f_X0_find r4 r6 (1 : Int32))) (fun r7 => mBd (mPutI 3 7 p0 r7) (fun _ => mBd (mGetA 3 5 p0) (fun r8 => mBd (mGetI 3 7 p0) (fun r9 => mBd (mCk 0 r8 (f_X0_fieldAt r8 r9)) (fun r10 => (if r10 = none then mBd (mCk 3 p0 (f_X3_blame p0 (2 : Int32))) (fun r12 => mRq (r12 = 0 ∨ r12 = 1) (mRt r12)) else mBd (mPutA 3 6 p0 r10) (fun _ => mBd (mGetA 3 0 p0) (fun r11 => mBd (mCk 7 r11 (f_X9_step r11)) (fun _ => mRt (1 : Int32))))))))))))) else mBd (mCk 3 p0 (f_X3_blame p0 (1 : Int32))) (fun r13 => mRq (r13 = 0 ∨ r13 = 1) (mRt r13))))) else mRt (0 : Int32)))
set_option maxRecDepth 100000 in
theorem s_X3_takeInField {cx : CX} (p0 : (Option Nat)) : Sn cx m_X3_takeInField eI 0 [(0, vA p0)] [] (f_X3_takeInField p0) := by
  refine sn_aload_n (y := m_X3_takeInField) (pc := 0) dX3_takeInField_0 rfl ?_
  refine sn_iconst (y := m_X3_takeInField) (pc := 1) dX3_takeInField_1 kc_iconst_4 ?_
  refine sn_invV (y := m_X3_takeInField) (pc := 2) ca_3 (av := [vI (4 : Int32)]) (o := p0) (st := []) dX3_takeInField_2 lk_X3_135 im_X3_takeWord se_X3_takeWord rfl rfl rfl rfl ⟨by decide, by decide⟩ (c_X3_takeWord cx.1 p0 (4 : Int32)) (fun r1 => ?_)
  refine sn_if_ne (y := m_X3_takeInField) (pc := 5) (tgt := 10) dX3_takeInField_5 (by decide) (fun _ => ?_) (fun _ => ?_)
  · refine sn_aload_n (y := m_X3_takeInField) (pc := 10) dX3_takeInField_10 rfl ?_
    refine sn_getA (y := m_X3_takeInField) (pc := 11) ca_3 rfl fk_X3_12 (fun _ _ _ => rfl) dX3_takeInField_11 (fun r2 => ?_)
    refine sn_invV (y := m_X3_takeInField) (pc := 14) ca_7 (av := []) (o := r2) (st := []) dX3_takeInField_14 lk_X3_124 im_X9_atName se_X9_atName rfl rfl rfl rfl ⟨by decide, by decide⟩ (c_X9_atName cx.1 r2) (fun r3 => ?_)
    refine sn_if_ne (y := m_X3_takeInField) (pc := 17) (tgt := 26) dX3_takeInField_17 (by decide) (fun _ => ?_) (fun _ => ?_)
    · refine sn_aload_n (y := m_X3_takeInField) (pc := 26) dX3_takeInField_26 rfl ?_
      refine sn_aload_n (y := m_X3_takeInField) (pc := 27) dX3_takeInField_27 rfl ?_
      refine sn_getA (y := m_X3_takeInField) (pc := 28) ca_3 rfl fk_X3_39 (fun _ _ _ => rfl) dX3_takeInField_28 (fun r4 => ?_)
      refine sn_aload_n (y := m_X3_takeInField) (pc := 31) dX3_takeInField_31 rfl ?_
      refine sn_getA (y := m_X3_takeInField) (pc := 32) ca_3 rfl fk_X3_12 (fun _ _ _ => rfl) dX3_takeInField_32 (fun r5 => ?_)
      refine sn_invV (y := m_X3_takeInField) (pc := 35) ca_7 (av := []) (o := r5) (st := [vA r4, vA p0]) dX3_takeInField_35 lk_X3_127 im_X9_nameNow se_X9_nameNow rfl rfl rfl rfl ⟨by decide, by decide⟩ (c_X9_nameNow cx.1 r5) (fun r6 => ?_)
      refine sn_iconst (y := m_X3_takeInField) (pc := 38) dX3_takeInField_38 kc_iconst_1 ?_
      refine sn_invV (y := m_X3_takeInField) (pc := 39) ca_0 (av := [vJ r6, vI (1 : Int32)]) (o := r4) (st := [vA p0]) dX3_takeInField_39 lk_X3_138 im_X0_find se_X0_find rfl rfl rfl rfl ⟨by decide, by decide⟩ (c_X0_find cx.1 r4 r6 (1 : Int32)) (fun r7 => ?_)
      refine sn_putI (y := m_X3_takeInField) (pc := 42) ca_3 rfl fk_X3_50 (Or.inl rfl) rfl dX3_takeInField_42 ?_
      refine sn_aload_n (y := m_X3_takeInField) (pc := 45) dX3_takeInField_45 rfl ?_
      refine sn_getA (y := m_X3_takeInField) (pc := 46) ca_3 rfl fk_X3_39 (fun _ _ _ => rfl) dX3_takeInField_46 (fun r8 => ?_)
      refine sn_aload_n (y := m_X3_takeInField) (pc := 49) dX3_takeInField_49 rfl ?_
      refine sn_getI (y := m_X3_takeInField) (pc := 50) ca_3 rfl fk_X3_50 (fun _ _ _ => rfl) dX3_takeInField_50 (fun r9 => ?_)
      refine sn_invV (y := m_X3_takeInField) (pc := 53) ca_0 (av := [vI r9]) (o := r8) (st := []) dX3_takeInField_53 lk_X3_142 im_X0_fieldAt se_X0_fieldAt rfl rfl rfl rfl ⟨by decide, by decide⟩ (c_X0_fieldAt cx.1 r8 r9) (fun r10 => ?_)
      refine sn_astore_n (y := m_X3_takeInField) (pc := 56) dX3_takeInField_56 rfl ?_
      refine sn_aload_n (y := m_X3_takeInField) (pc := 57) dX3_takeInField_57 rfl ?_
      refine sn_ifnonnull (y := m_X3_takeInField) (pc := 58) (tgt := 67) dX3_takeInField_58 (by decide) ?_ ?_
      · refine sn_aload_n (y := m_X3_takeInField) (pc := 61) dX3_takeInField_61 rfl ?_
        refine sn_iconst (y := m_X3_takeInField) (pc := 62) dX3_takeInField_62 kc_iconst_2 ?_
        refine sn_invV (y := m_X3_takeInField) (pc := 63) ca_3 (av := [vI (2 : Int32)]) (o := p0) (st := []) dX3_takeInField_63 lk_X3_111 im_X3_blame se_X3_blame rfl rfl rfl rfl ⟨by decide, by decide⟩ (c_X3_blame cx.1 p0 (2 : Int32)) (fun r12 => ?_)
        exact sn_zreturn rfl dX3_takeInField_66
      refine sn_aload_n (y := m_X3_takeInField) (pc := 67) dX3_takeInField_67 rfl ?_
      refine sn_aload_n (y := m_X3_takeInField) (pc := 68) dX3_takeInField_68 rfl ?_
      refine sn_putA (y := m_X3_takeInField) (pc := 69) ca_3 rfl fk_X3_46 (Or.inl rfl) rfl dX3_takeInField_69 ?_
      refine sn_aload_n (y := m_X3_takeInField) (pc := 72) dX3_takeInField_72 rfl ?_
      refine sn_getA (y := m_X3_takeInField) (pc := 73) ca_3 rfl fk_X3_12 (fun _ _ _ => rfl) dX3_takeInField_73 (fun r11 => ?_)
      refine sn_invV (y := m_X3_takeInField) (pc := 76) ca_7 (av := []) (o := r11) (st := []) dX3_takeInField_76 lk_X3_92 im_X9_step se_X9_step rfl rfl rfl rfl ⟨by decide, by decide⟩ (c_X9_step cx.1 r11) (fun _ => ?_)
      refine sn_iconst (y := m_X3_takeInField) (pc := 79) dX3_takeInField_79 kc_iconst_1 ?_
      exact sn_zreturnC (by decide) rfl dX3_takeInField_80
    refine sn_aload_n (y := m_X3_takeInField) (pc := 20) dX3_takeInField_20 rfl ?_
    refine sn_iconst (y := m_X3_takeInField) (pc := 21) dX3_takeInField_21 kc_iconst_1 ?_
    refine sn_invV (y := m_X3_takeInField) (pc := 22) ca_3 (av := [vI (1 : Int32)]) (o := p0) (st := []) dX3_takeInField_22 lk_X3_111 im_X3_blame se_X3_blame rfl rfl rfl rfl ⟨by decide, by decide⟩ (c_X3_blame cx.1 p0 (1 : Int32)) (fun r13 => ?_)
    exact sn_zreturn rfl dX3_takeInField_25
  refine sn_iconst (y := m_X3_takeInField) (pc := 8) dX3_takeInField_8 kc_iconst_0 ?_
  exact sn_zreturnC (by decide) rfl dX3_takeInField_9
set_option maxRecDepth 100000 in
theorem c_X3_takeInField (g : Gl) (p0 : (Option Nat)) : Cn g m_X3_takeInField eI [vA p0] (mCk 3 p0 (f_X3_takeInField p0)) := cn_of_sn (by decide +kernel) rfl (fun r => ⟨r, rfl⟩) rfl (fun _ _ => sn_ck (s_X3_takeInField p0))
/-! X9_atWholeWithin -/
def f_X9_atWholeWithin (p0 : (Option Nat)) (p1 : Int32) (p2 : Int32) : Mo Int32 :=
  mBd (mGetI 7 9 p0) (fun r1 => (if ¬ r1 = (2 : Int32) then mRt (0 : Int32) else mBd (mGetJ 7 10 p0) (fun r2 => (if r2 < (p1.toInt64) then mRt (0 : Int32) else mBd (mGetJ 7 10 p0) (fun r3 => (if r3 > (p2.toInt64) then mRt (0 : Int32) else mRt (1 : Int32)))))))
set_option maxRecDepth 100000 in
theorem s_X9_atWholeWithin {cx : CX} (p0 : (Option Nat)) (p1 : Int32) (p2 : Int32) : Sn cx m_X9_atWholeWithin eI 0 [(0, vA p0), (1, vI p1), (2, vI p2)] [] (f_X9_atWholeWithin p0 p1 p2) := by
  refine sn_aload_n (y := m_X9_atWholeWithin) (pc := 0) dX9_atWholeWithin_0 rfl ?_
  refine sn_getI (y := m_X9_atWholeWithin) (pc := 1) ca_7 rfl fk_X9_41 (fun _ _ _ => rfl) dX9_atWholeWithin_1 (fun r1 => ?_)
  refine sn_iconst (y := m_X9_atWholeWithin) (pc := 4) dX9_atWholeWithin_4 kc_iconst_2 ?_
  refine sn_icmp_ne (y := m_X9_atWholeWithin) (pc := 5) (tgt := 32) dX9_atWholeWithin_5 (by decide) (fun _ => ?_) (fun _ => ?_)
  · refine sn_iconst (y := m_X9_atWholeWithin) (pc := 32) dX9_atWholeWithin_32 kc_iconst_0 ?_
    exact sn_zreturnC (by decide) rfl dX9_atWholeWithin_33
  refine sn_aload_n (y := m_X9_atWholeWithin) (pc := 8) dX9_atWholeWithin_8 rfl ?_
  refine sn_getJ (y := m_X9_atWholeWithin) (pc := 9) ca_7 rfl fk_X9_44 (fun _ _ _ => rfl) dX9_atWholeWithin_9 (fun r2 => ?_)
  refine sn_iload_n (y := m_X9_atWholeWithin) (pc := 12) dX9_atWholeWithin_12 rfl ?_
  refine sn_i2l (y := m_X9_atWholeWithin) (pc := 13) dX9_atWholeWithin_13 ?_
  refine sn_lc_lt (y := m_X9_atWholeWithin) (pc := 14) (tgt := 32) dX9_atWholeWithin_14 dX9_atWholeWithin_15 (by decide) (fun _ => ?_) (fun _ => ?_)
  · refine sn_iconst (y := m_X9_atWholeWithin) (pc := 32) dX9_atWholeWithin_32 kc_iconst_0 ?_
    exact sn_zreturnC (by decide) rfl dX9_atWholeWithin_33
  refine sn_aload_n (y := m_X9_atWholeWithin) (pc := 18) dX9_atWholeWithin_18 rfl ?_
  refine sn_getJ (y := m_X9_atWholeWithin) (pc := 19) ca_7 rfl fk_X9_44 (fun _ _ _ => rfl) dX9_atWholeWithin_19 (fun r3 => ?_)
  refine sn_iload_n (y := m_X9_atWholeWithin) (pc := 22) dX9_atWholeWithin_22 rfl ?_
  refine sn_i2l (y := m_X9_atWholeWithin) (pc := 23) dX9_atWholeWithin_23 ?_
  refine sn_lc_gt (y := m_X9_atWholeWithin) (pc := 24) (tgt := 32) dX9_atWholeWithin_24 dX9_atWholeWithin_25 (by decide) (fun _ => ?_) (fun _ => ?_)
  · refine sn_iconst (y := m_X9_atWholeWithin) (pc := 32) dX9_atWholeWithin_32 kc_iconst_0 ?_
    exact sn_zreturnC (by decide) rfl dX9_atWholeWithin_33
  refine sn_iconst (y := m_X9_atWholeWithin) (pc := 28) dX9_atWholeWithin_28 kc_iconst_1 ?_
  refine sn_goto (y := m_X9_atWholeWithin) (pc := 29) (tgt := 33) dX9_atWholeWithin_29 (by decide) ?_
  exact sn_zreturnC (by decide) rfl dX9_atWholeWithin_33
set_option maxRecDepth 100000 in
theorem c_X9_atWholeWithin (g : Gl) (p0 : (Option Nat)) (p1 : Int32) (p2 : Int32) : Cn g m_X9_atWholeWithin eI [vA p0, vI p1, vI p2] (mCk 7 p0 (f_X9_atWholeWithin p0 p1 p2)) := cn_of_sn (by decide +kernel) rfl (fun r => ⟨r, rfl⟩) rfl (fun _ _ => sn_ck (s_X9_atWholeWithin p0 p1 p2))
/-! X3_readTerm -/
def f_X3_readTerm_j32 (x0 : (Option Nat)) (x1 : (Option Nat)) (x2 : Int32) : Mo Int32 :=
  mBd (mCk 3 x0 (f_X3_takeWhole x0 x2)) (fun r4 => (if ¬ r4 = 0 then mBd (mGetI 3 9 x0) (fun r5 => mBd (mCk 3 x0 (f_X3_takeWord x0 (6 : Int32))) (fun r6 => (if r6 = 0 then mRt (0 : Int32) else mBd (mGetA 3 0 x0) (fun r7 => mBd (mCk 7 r7 (f_X9_atWholeWithin r7 (1 : Int32) (12 : Int32))) (fun r8 => mBd (mCk 3 x0 (f_X3_takeWhole x0 r8)) (fun r9 => (if ¬ r9 = 0 then mBd (mGetI 3 9 x0) (fun r10 => mBd (mCk 1 x1 (f_X1_append x1 r5 r10)) (fun _ => mRt (1 : Int32))) else mRt (0 : Int32)))))))) else mRt (0 : Int32)))
set_option maxRecDepth 100000 in
theorem s_X3_readTerm_j32 {cx : CX} (x0 : (Option Nat)) (x1 : (Option Nat)) (x2 : Int32) : Sn cx m_X3_readTerm eI 32 [(0, vA x0), (1, vA x1), (2, vI x2)] [] (f_X3_readTerm_j32 x0 x1 x2) := by
  refine sn_aload_n (y := m_X3_readTerm) (pc := 32) dX3_readTerm_32 rfl ?_
  refine sn_iload_n (y := m_X3_readTerm) (pc := 33) dX3_readTerm_33 rfl ?_
  refine sn_invV (y := m_X3_readTerm) (pc := 34) ca_3 (av := [vI x2]) (o := x0) (st := []) dX3_readTerm_34 lk_X3_154 im_X3_takeWhole se_X3_takeWhole rfl rfl rfl rfl ⟨by decide, by decide⟩ (c_X3_takeWhole cx.1 x0 x2) (fun r4 => ?_)
  refine sn_if_ne (y := m_X3_readTerm) (pc := 37) (tgt := 42) dX3_readTerm_37 (by decide) (fun _ => ?_) (fun _ => ?_)
  · refine sn_aload_n (y := m_X3_readTerm) (pc := 42) dX3_readTerm_42 rfl ?_
    refine sn_getI (y := m_X3_readTerm) (pc := 43) ca_3 rfl fk_X3_58 (fun _ _ _ => rfl) dX3_readTerm_43 (fun r5 => ?_)
    refine sn_istore_n (y := m_X3_readTerm) (pc := 46) dX3_readTerm_46 rfl ?_
    refine sn_aload_n (y := m_X3_readTerm) (pc := 47) dX3_readTerm_47 rfl ?_
    refine sn_bipush (y := m_X3_readTerm) (pc := 48) dX3_readTerm_48 kc_bipush_6 ?_
    refine sn_invV (y := m_X3_readTerm) (pc := 50) ca_3 (av := [vI (6 : Int32)]) (o := x0) (st := []) dX3_readTerm_50 lk_X3_135 im_X3_takeWord se_X3_takeWord rfl rfl rfl rfl ⟨by decide, by decide⟩ (c_X3_takeWord cx.1 x0 (6 : Int32)) (fun r6 => ?_)
    refine sn_if_eq (y := m_X3_readTerm) (pc := 53) (tgt := 73) dX3_readTerm_53 (by decide) (fun _ => ?_) (fun _ => ?_)
    · refine sn_iconst (y := m_X3_readTerm) (pc := 73) dX3_readTerm_73 kc_iconst_0 ?_
      exact sn_zreturnC (by decide) rfl dX3_readTerm_74
    refine sn_aload_n (y := m_X3_readTerm) (pc := 56) dX3_readTerm_56 rfl ?_
    refine sn_aload_n (y := m_X3_readTerm) (pc := 57) dX3_readTerm_57 rfl ?_
    refine sn_getA (y := m_X3_readTerm) (pc := 58) ca_3 rfl fk_X3_12 (fun _ _ _ => rfl) dX3_readTerm_58 (fun r7 => ?_)
    refine sn_iconst (y := m_X3_readTerm) (pc := 61) dX3_readTerm_61 kc_iconst_1 ?_
    refine sn_bipush (y := m_X3_readTerm) (pc := 62) dX3_readTerm_62 kc_bipush_12 ?_
    refine sn_invV (y := m_X3_readTerm) (pc := 64) ca_7 (av := [vI (1 : Int32), vI (12 : Int32)]) (o := r7) (st := [vA x0]) dX3_readTerm_64 lk_X3_185 im_X9_atWholeWithin se_X9_atWholeWithin rfl rfl rfl rfl ⟨by decide, by decide⟩ (c_X9_atWholeWithin cx.1 r7 (1 : Int32) (12 : Int32)) (fun r8 => ?_)
    refine sn_invV (y := m_X3_readTerm) (pc := 67) ca_3 (av := [vI r8]) (o := x0) (st := []) dX3_readTerm_67 lk_X3_154 im_X3_takeWhole se_X3_takeWhole rfl rfl rfl rfl ⟨by decide, by decide⟩ (c_X3_takeWhole cx.1 x0 r8) (fun r9 => ?_)
    refine sn_if_ne (y := m_X3_readTerm) (pc := 70) (tgt := 75) dX3_readTerm_70 (by decide) (fun _ => ?_) (fun _ => ?_)
    · refine sn_aload_n (y := m_X3_readTerm) (pc := 75) dX3_readTerm_75 rfl ?_
      refine sn_iload_n (y := m_X3_readTerm) (pc := 76) dX3_readTerm_76 rfl ?_
      refine sn_aload_n (y := m_X3_readTerm) (pc := 77) dX3_readTerm_77 rfl ?_
      refine sn_getI (y := m_X3_readTerm) (pc := 78) ca_3 rfl fk_X3_58 (fun _ _ _ => rfl) dX3_readTerm_78 (fun r10 => ?_)
      refine sn_invV (y := m_X3_readTerm) (pc := 81) ca_1 (av := [vI r5, vI r10]) (o := x1) (st := []) dX3_readTerm_81 lk_X3_202 im_X1_append se_X1_append rfl rfl rfl rfl ⟨by decide, by decide⟩ (c_X1_append cx.1 x1 r5 r10) (fun _ => ?_)
      refine sn_iconst (y := m_X3_readTerm) (pc := 84) dX3_readTerm_84 kc_iconst_1 ?_
      exact sn_zreturnC (by decide) rfl dX3_readTerm_85
    refine sn_iconst (y := m_X3_readTerm) (pc := 73) dX3_readTerm_73 kc_iconst_0 ?_
    exact sn_zreturnC (by decide) rfl dX3_readTerm_74
  refine sn_iconst (y := m_X3_readTerm) (pc := 40) dX3_readTerm_40 kc_iconst_0 ?_
  exact sn_zreturnC (by decide) rfl dX3_readTerm_41
def f_X3_readTerm (p0 : (Option Nat)) (p1 : (Option Nat)) : Mo Int32 :=
  mBd (mGetA 3 0 p0) (fun r1 => mBd (mCk 1 p1 (f_X1_prime p1)) (fun r2 => mBd (mCk 7 r1 (f_X9_atWholeWithin r1 (1 : Int32) (r2 - (1 : Int32)))) (fun r3 => (if r3 = 0 then f_X3_readTerm_j32 p0 p1 r3 else mBd (mCk 1 p1 (f_X1_isFull p1)) (fun r11 => (if r11 = 0 then f_X3_readTerm_j32 p0 p1 r3 else mBd (mCk 3 p0 (f_X3_blame p0 (5 : Int32))) (fun r12 => mRq (r12 = 0 ∨ r12 = 1) (mRt r12))))))))
set_option maxRecDepth 100000 in
theorem s_X3_readTerm {cx : CX} (p0 : (Option Nat)) (p1 : (Option Nat)) : Sn cx m_X3_readTerm eI 0 [(0, vA p0), (1, vA p1)] [] (f_X3_readTerm p0 p1) := by
  refine sn_aload_n (y := m_X3_readTerm) (pc := 0) dX3_readTerm_0 rfl ?_
  refine sn_getA (y := m_X3_readTerm) (pc := 1) ca_3 rfl fk_X3_12 (fun _ _ _ => rfl) dX3_readTerm_1 (fun r1 => ?_)
  refine sn_iconst (y := m_X3_readTerm) (pc := 4) dX3_readTerm_4 kc_iconst_1 ?_
  refine sn_aload_n (y := m_X3_readTerm) (pc := 5) dX3_readTerm_5 rfl ?_
  refine sn_invV (y := m_X3_readTerm) (pc := 6) ca_1 (av := []) (o := p1) (st := [vI (1 : Int32), vA r1]) dX3_readTerm_6 lk_X3_198 im_X1_prime se_X1_prime rfl rfl rfl rfl ⟨by decide, by decide⟩ (c_X1_prime cx.1 p1) (fun r2 => ?_)
  refine sn_iconst (y := m_X3_readTerm) (pc := 9) dX3_readTerm_9 kc_iconst_1 ?_
  refine sn_isub (y := m_X3_readTerm) (pc := 10) dX3_readTerm_10 ?_
  refine sn_invV (y := m_X3_readTerm) (pc := 11) ca_7 (av := [vI (1 : Int32), vI (r2 - (1 : Int32))]) (o := r1) (st := []) dX3_readTerm_11 lk_X3_185 im_X9_atWholeWithin se_X9_atWholeWithin rfl rfl rfl rfl ⟨by decide, by decide⟩ (c_X9_atWholeWithin cx.1 r1 (1 : Int32) (r2 - (1 : Int32))) (fun r3 => ?_)
  refine sn_istore_n (y := m_X3_readTerm) (pc := 14) dX3_readTerm_14 rfl ?_
  refine sn_iload_n (y := m_X3_readTerm) (pc := 15) dX3_readTerm_15 rfl ?_
  refine sn_if_eq (y := m_X3_readTerm) (pc := 16) (tgt := 32) dX3_readTerm_16 (by decide) (fun _ => ?_) (fun _ => ?_)
  · exact sn_sub rfl (s_X3_readTerm_j32 p0 p1 r3)
  refine sn_aload_n (y := m_X3_readTerm) (pc := 19) dX3_readTerm_19 rfl ?_
  refine sn_invV (y := m_X3_readTerm) (pc := 20) ca_1 (av := []) (o := p1) (st := []) dX3_readTerm_20 lk_X3_199 im_X1_isFull se_X1_isFull rfl rfl rfl rfl ⟨by decide, by decide⟩ (c_X1_isFull cx.1 p1) (fun r11 => ?_)
  refine sn_if_eq (y := m_X3_readTerm) (pc := 23) (tgt := 32) dX3_readTerm_23 (by decide) (fun _ => ?_) (fun _ => ?_)
  · exact sn_sub rfl (s_X3_readTerm_j32 p0 p1 r3)
  refine sn_aload_n (y := m_X3_readTerm) (pc := 26) dX3_readTerm_26 rfl ?_
  refine sn_iconst (y := m_X3_readTerm) (pc := 27) dX3_readTerm_27 kc_iconst_5 ?_
  refine sn_invV (y := m_X3_readTerm) (pc := 28) ca_3 (av := [vI (5 : Int32)]) (o := p0) (st := []) dX3_readTerm_28 lk_X3_111 im_X3_blame se_X3_blame rfl rfl rfl rfl ⟨by decide, by decide⟩ (c_X3_blame cx.1 p0 (5 : Int32)) (fun r12 => ?_)
  exact sn_zreturn rfl dX3_readTerm_31
set_option maxRecDepth 100000 in
theorem c_X3_readTerm (g : Gl) (p0 : (Option Nat)) (p1 : (Option Nat)) : Cn g m_X3_readTerm eI [vA p0, vA p1] (mCk 3 p0 (f_X3_readTerm p0 p1)) := cn_of_sn (by decide +kernel) rfl (fun r => ⟨r, rfl⟩) rfl (fun _ _ => sn_ck (s_X3_readTerm p0 p1))
/-! X9_atSign -/
def f_X9_atSign (p0 : (Option Nat)) (p1 : Int32) : Mo Int32 :=
  mBd (mGetI 7 9 p0) (fun r1 => (if ¬ r1 = (3 : Int32) then mRt (0 : Int32) else mBd (mGetJ 7 10 p0) (fun r2 => (if ¬ r2 = (p1.toInt64) then mRt (0 : Int32) else mRt (1 : Int32)))))
set_option maxRecDepth 100000 in
theorem s_X9_atSign {cx : CX} (p0 : (Option Nat)) (p1 : Int32) : Sn cx m_X9_atSign eI 0 [(0, vA p0), (1, vI p1)] [] (f_X9_atSign p0 p1) := by
  refine sn_aload_n (y := m_X9_atSign) (pc := 0) dX9_atSign_0 rfl ?_
  refine sn_getI (y := m_X9_atSign) (pc := 1) ca_7 rfl fk_X9_41 (fun _ _ _ => rfl) dX9_atSign_1 (fun r1 => ?_)
  refine sn_iconst (y := m_X9_atSign) (pc := 4) dX9_atSign_4 kc_iconst_3 ?_
  refine sn_icmp_ne (y := m_X9_atSign) (pc := 5) (tgt := 22) dX9_atSign_5 (by decide) (fun _ => ?_) (fun _ => ?_)
  · refine sn_iconst (y := m_X9_atSign) (pc := 22) dX9_atSign_22 kc_iconst_0 ?_
    exact sn_zreturnC (by decide) rfl dX9_atSign_23
  refine sn_aload_n (y := m_X9_atSign) (pc := 8) dX9_atSign_8 rfl ?_
  refine sn_getJ (y := m_X9_atSign) (pc := 9) ca_7 rfl fk_X9_44 (fun _ _ _ => rfl) dX9_atSign_9 (fun r2 => ?_)
  refine sn_iload_n (y := m_X9_atSign) (pc := 12) dX9_atSign_12 rfl ?_
  refine sn_i2l (y := m_X9_atSign) (pc := 13) dX9_atSign_13 ?_
  refine sn_lc_ne (y := m_X9_atSign) (pc := 14) (tgt := 22) dX9_atSign_14 dX9_atSign_15 (by decide) (fun _ => ?_) (fun _ => ?_)
  · refine sn_iconst (y := m_X9_atSign) (pc := 22) dX9_atSign_22 kc_iconst_0 ?_
    exact sn_zreturnC (by decide) rfl dX9_atSign_23
  refine sn_iconst (y := m_X9_atSign) (pc := 18) dX9_atSign_18 kc_iconst_1 ?_
  refine sn_goto (y := m_X9_atSign) (pc := 19) (tgt := 23) dX9_atSign_19 (by decide) ?_
  exact sn_zreturnC (by decide) rfl dX9_atSign_23
set_option maxRecDepth 100000 in
theorem c_X9_atSign (g : Gl) (p0 : (Option Nat)) (p1 : Int32) : Cn g m_X9_atSign eI [vA p0, vI p1] (mCk 7 p0 (f_X9_atSign p0 p1)) := cn_of_sn (by decide +kernel) rfl (fun r => ⟨r, rfl⟩) rfl (fun _ _ => sn_ck (s_X9_atSign p0 p1))
/-! X3_readTerms -/
def f_X3_readTerms_b2 (x0 : (Option Nat)) (x1 : (Option Nat)) (k2 : Int32 → Mo Int32) (x2 : Int32) : Mo Int32 :=
  (if x2 > (3 : Int32) then mBd (mCk 3 x0 (f_X3_blame x0 (1 : Int32))) (fun r1 => mRq (r1 = 0 ∨ r1 = 1) (mRt r1)) else mBd (mCk 3 x0 (f_X3_readTerm x0 x1)) (fun r2 => (if ¬ r2 = 0 then mBd (mGetA 3 0 x0) (fun r3 => mBd (mCk 7 r3 (f_X9_atSign r3 (44 : Int32))) (fun r4 => (if ¬ r4 = 0 then mBd (mGetA 3 0 x0) (fun r5 => mBd (mCk 7 r5 (f_X9_step r5)) (fun _ => k2 (x2 + 1))) else mRt (1 : Int32)))) else mRt (0 : Int32))))
def f_X3_readTerms_l2 (x0 : (Option Nat)) (x1 : (Option Nat)) : Int32 → Mo Int32 := lq1 (f_X3_readTerms_b2 x0 x1) fuel
set_option maxRecDepth 100000 in
theorem s_X3_readTerms_b2 {cx : CX} (x0 : (Option Nat)) (x1 : (Option Nat)) {k2 : Int32 → Mo Int32} (hk2 : ∀ (z2 : Int32), Sn cx m_X3_readTerms eI 2 [(2, vI z2), (0, vA x0), (1, vA x1)] [] (k2 z2)) (x2 : Int32) : Sn cx m_X3_readTerms eI 2 [(2, vI x2), (0, vA x0), (1, vA x1)] [] (f_X3_readTerms_b2 x0 x1 k2 x2) := by
  refine sn_iload_n (y := m_X3_readTerms) (pc := 2) dX3_readTerms_2 rfl ?_
  refine sn_iconst (y := m_X3_readTerms) (pc := 3) dX3_readTerms_3 kc_iconst_3 ?_
  refine sn_icmp_gt (y := m_X3_readTerms) (pc := 4) (tgt := 44) dX3_readTerms_4 (by decide) (fun _ => ?_) (fun _ => ?_)
  · refine sn_aload_n (y := m_X3_readTerms) (pc := 44) dX3_readTerms_44 rfl ?_
    refine sn_iconst (y := m_X3_readTerms) (pc := 45) dX3_readTerms_45 kc_iconst_1 ?_
    refine sn_invV (y := m_X3_readTerms) (pc := 46) ca_3 (av := [vI (1 : Int32)]) (o := x0) (st := []) dX3_readTerms_46 lk_X3_111 im_X3_blame se_X3_blame rfl rfl rfl rfl ⟨by decide, by decide⟩ (c_X3_blame cx.1 x0 (1 : Int32)) (fun r1 => ?_)
    exact sn_zreturn rfl dX3_readTerms_49
  refine sn_aload_n (y := m_X3_readTerms) (pc := 7) dX3_readTerms_7 rfl ?_
  refine sn_aload_n (y := m_X3_readTerms) (pc := 8) dX3_readTerms_8 rfl ?_
  refine sn_invV (y := m_X3_readTerms) (pc := 9) ca_3 (av := [vA x1]) (o := x0) (st := []) dX3_readTerms_9 lk_X3_195 im_X3_readTerm se_X3_readTerm rfl rfl rfl rfl ⟨by decide, by decide⟩ (c_X3_readTerm cx.1 x0 x1) (fun r2 => ?_)
  refine sn_if_ne (y := m_X3_readTerms) (pc := 12) (tgt := 17) dX3_readTerms_12 (by decide) (fun _ => ?_) (fun _ => ?_)
  · refine sn_aload_n (y := m_X3_readTerms) (pc := 17) dX3_readTerms_17 rfl ?_
    refine sn_getA (y := m_X3_readTerms) (pc := 18) ca_3 rfl fk_X3_12 (fun _ _ _ => rfl) dX3_readTerms_18 (fun r3 => ?_)
    refine sn_bipush (y := m_X3_readTerms) (pc := 21) dX3_readTerms_21 kc_bipush_44 ?_
    refine sn_invV (y := m_X3_readTerms) (pc := 23) ca_7 (av := [vI (44 : Int32)]) (o := r3) (st := []) dX3_readTerms_23 lk_X3_114 im_X9_atSign se_X9_atSign rfl rfl rfl rfl ⟨by decide, by decide⟩ (c_X9_atSign cx.1 r3 (44 : Int32)) (fun r4 => ?_)
    refine sn_if_ne (y := m_X3_readTerms) (pc := 26) (tgt := 31) dX3_readTerms_26 (by decide) (fun _ => ?_) (fun _ => ?_)
    · refine sn_aload_n (y := m_X3_readTerms) (pc := 31) dX3_readTerms_31 rfl ?_
      refine sn_getA (y := m_X3_readTerms) (pc := 32) ca_3 rfl fk_X3_12 (fun _ _ _ => rfl) dX3_readTerms_32 (fun r5 => ?_)
      refine sn_invV (y := m_X3_readTerms) (pc := 35) ca_7 (av := []) (o := r5) (st := []) dX3_readTerms_35 lk_X3_92 im_X9_step se_X9_step rfl rfl rfl rfl ⟨by decide, by decide⟩ (c_X9_step cx.1 r5) (fun _ => ?_)
      refine sn_iinc (y := m_X3_readTerms) (pc := 38) (v := x2 + 1) dX3_readTerms_38 rfl (by rfl) rfl ?_
      refine sn_goto (y := m_X3_readTerms) (pc := 41) (tgt := 2) dX3_readTerms_41 (by decide) ?_
      exact sn_sub rfl (hk2 (x2 + 1))
    refine sn_iconst (y := m_X3_readTerms) (pc := 29) dX3_readTerms_29 kc_iconst_1 ?_
    exact sn_zreturnC (by decide) rfl dX3_readTerms_30
  refine sn_iconst (y := m_X3_readTerms) (pc := 15) dX3_readTerms_15 kc_iconst_0 ?_
  exact sn_zreturnC (by decide) rfl dX3_readTerms_16
set_option maxRecDepth 100000 in
theorem s_X3_readTerms_l2 {cx : CX} (x0 : (Option Nat)) (x1 : (Option Nat)) (x2 : Int32) : Sn cx m_X3_readTerms eI 2 [(2, vI x2), (0, vA x0), (1, vA x1)] [] (f_X3_readTerms_l2 x0 x1 x2) :=
  sn_lq1 (L := fun x2 => [(2, vI x2), (0, vA x0), (1, vA x1)]) (fun k hk x2 => s_X3_readTerms_b2 x0 x1 hk x2) fuel x2
def f_X3_readTerms (p0 : (Option Nat)) (p1 : (Option Nat)) : Mo Int32 :=
  f_X3_readTerms_l2 p0 p1 (0 : Int32)
set_option maxRecDepth 100000 in
theorem s_X3_readTerms {cx : CX} (p0 : (Option Nat)) (p1 : (Option Nat)) : Sn cx m_X3_readTerms eI 0 [(0, vA p0), (1, vA p1)] [] (f_X3_readTerms p0 p1) := by
  refine sn_iconst (y := m_X3_readTerms) (pc := 0) dX3_readTerms_0 kc_iconst_0 ?_
  refine sn_istore_n (y := m_X3_readTerms) (pc := 1) dX3_readTerms_1 rfl ?_
  exact sn_sub rfl (s_X3_readTerms_l2 p0 p1 (0 : Int32))
set_option maxRecDepth 100000 in
theorem c_X3_readTerms (g : Gl) (p0 : (Option Nat)) (p1 : (Option Nat)) : Cn g m_X3_readTerms eI [vA p0, vA p1] (mCk 3 p0 (f_X3_readTerms p0 p1)) := cn_of_sn (by decide +kernel) rfl (fun r => ⟨r, rfl⟩) rfl (fun _ _ => sn_ck (s_X3_readTerms p0 p1))
/-! X3_readEquation -/
def f_X3_readEquation (p0 : (Option Nat)) : Mo Int32 :=
  mBd (mGetA 3 5 p0) (fun r1 => mBd (mCk 0 r1 (f_X0_nextEquation r1)) (fun r2 => (if r2 = none then mBd (mCk 3 p0 (f_X3_blame p0 (5 : Int32))) (fun r19 => mRq (r19 = 0 ∨ r19 = 1) (mRt r19)) else mBd (mGetA 3 0 p0) (fun r3 => mBd (mCk 7 r3 (f_X9_step r3)) (fun _ => mBd (mCk 3 p0 (f_X3_takeNewName p0)) (fun r4 => (if r4 = 0 then mRt (0 : Int32) else mBd (mCk 3 p0 (f_X3_takeInField p0)) (fun r5 => (if r5 = 0 then mRt (0 : Int32) else mBd (mCk 3 p0 (f_X3_takeWord p0 (5 : Int32))) (fun r6 => (if ¬ r6 = 0 then mBd (mGetA 3 6 p0) (fun r7 => mBd (mCk 2 r7 (f_X2_prime r7)) (fun r8 => mBd (mCk 1 r2 (f_X1_begin r2 r8)) (fun _ => mBd (mCk 3 p0 (f_X3_readTerms p0 r2)) (fun r9 => (if r9 = 0 then mRt (0 : Int32) else mBd (mCk 3 p0 (f_X3_takeWord p0 (7 : Int32))) (fun r10 => (if ¬ r10 = 0 then mBd (mGetA 3 0 p0) (fun r11 => mBd (mGetA 3 6 p0) (fun r12 => mBd (mCk 2 r12 (f_X2_prime r12)) (fun r13 => mBd (mCk 7 r11 (f_X9_atWholeWithin r11 (0 : Int32) (r13 - (1 : Int32)))) (fun r14 => mBd (mCk 3 p0 (f_X3_takeWhole p0 r14)) (fun r15 => (if ¬ r15 = 0 then mBd (mGetI 3 9 p0) (fun r16 => mBd (mCk 1 r2 (f_X1_close r2 r16)) (fun _ => mBd (mGetA 3 5 p0) (fun r17 => mBd (mGetJ 3 8 p0) (fun r18 => mBd (mCk 0 r17 (f_X0_tellEquation r17 r18)) (fun _ => mRt (1 : Int32)))))) else mRt (0 : Int32))))))) else mRt (0 : Int32)))))))) else mRt (0 : Int32))))))))))))
set_option maxRecDepth 100000 in
theorem s_X3_readEquation {cx : CX} (p0 : (Option Nat)) : Sn cx m_X3_readEquation eI 0 [(0, vA p0)] [] (f_X3_readEquation p0) := by
  refine sn_aload_n (y := m_X3_readEquation) (pc := 0) dX3_readEquation_0 rfl ?_
  refine sn_getA (y := m_X3_readEquation) (pc := 1) ca_3 rfl fk_X3_39 (fun _ _ _ => rfl) dX3_readEquation_1 (fun r1 => ?_)
  refine sn_invV (y := m_X3_readEquation) (pc := 4) ca_0 (av := []) (o := r1) (st := []) dX3_readEquation_4 lk_X3_166 im_X0_nextEquation se_X0_nextEquation rfl rfl rfl rfl ⟨by decide, by decide⟩ (c_X0_nextEquation cx.1 r1) (fun r2 => ?_)
  refine sn_astore_n (y := m_X3_readEquation) (pc := 7) dX3_readEquation_7 rfl ?_
  refine sn_aload_n (y := m_X3_readEquation) (pc := 8) dX3_readEquation_8 rfl ?_
  refine sn_ifnonnull (y := m_X3_readEquation) (pc := 9) (tgt := 18) dX3_readEquation_9 (by decide) ?_ ?_
  · refine sn_aload_n (y := m_X3_readEquation) (pc := 12) dX3_readEquation_12 rfl ?_
    refine sn_iconst (y := m_X3_readEquation) (pc := 13) dX3_readEquation_13 kc_iconst_5 ?_
    refine sn_invV (y := m_X3_readEquation) (pc := 14) ca_3 (av := [vI (5 : Int32)]) (o := p0) (st := []) dX3_readEquation_14 lk_X3_111 im_X3_blame se_X3_blame rfl rfl rfl rfl ⟨by decide, by decide⟩ (c_X3_blame cx.1 p0 (5 : Int32)) (fun r19 => ?_)
    exact sn_zreturn rfl dX3_readEquation_17
  refine sn_aload_n (y := m_X3_readEquation) (pc := 18) dX3_readEquation_18 rfl ?_
  refine sn_getA (y := m_X3_readEquation) (pc := 19) ca_3 rfl fk_X3_12 (fun _ _ _ => rfl) dX3_readEquation_19 (fun r3 => ?_)
  refine sn_invV (y := m_X3_readEquation) (pc := 22) ca_7 (av := []) (o := r3) (st := []) dX3_readEquation_22 lk_X3_92 im_X9_step se_X9_step rfl rfl rfl rfl ⟨by decide, by decide⟩ (c_X9_step cx.1 r3) (fun _ => ?_)
  refine sn_aload_n (y := m_X3_readEquation) (pc := 25) dX3_readEquation_25 rfl ?_
  refine sn_invV (y := m_X3_readEquation) (pc := 26) ca_3 (av := []) (o := p0) (st := []) dX3_readEquation_26 lk_X3_146 im_X3_takeNewName se_X3_takeNewName rfl rfl rfl rfl ⟨by decide, by decide⟩ (c_X3_takeNewName cx.1 p0) (fun r4 => ?_)
  refine sn_if_eq (y := m_X3_readEquation) (pc := 29) (tgt := 47) dX3_readEquation_29 (by decide) (fun _ => ?_) (fun _ => ?_)
  · refine sn_iconst (y := m_X3_readEquation) (pc := 47) dX3_readEquation_47 kc_iconst_0 ?_
    exact sn_zreturnC (by decide) rfl dX3_readEquation_48
  refine sn_aload_n (y := m_X3_readEquation) (pc := 32) dX3_readEquation_32 rfl ?_
  refine sn_invV (y := m_X3_readEquation) (pc := 33) ca_3 (av := []) (o := p0) (st := []) dX3_readEquation_33 lk_X3_170 im_X3_takeInField se_X3_takeInField rfl rfl rfl rfl ⟨by decide, by decide⟩ (c_X3_takeInField cx.1 p0) (fun r5 => ?_)
  refine sn_if_eq (y := m_X3_readEquation) (pc := 36) (tgt := 47) dX3_readEquation_36 (by decide) (fun _ => ?_) (fun _ => ?_)
  · refine sn_iconst (y := m_X3_readEquation) (pc := 47) dX3_readEquation_47 kc_iconst_0 ?_
    exact sn_zreturnC (by decide) rfl dX3_readEquation_48
  refine sn_aload_n (y := m_X3_readEquation) (pc := 39) dX3_readEquation_39 rfl ?_
  refine sn_iconst (y := m_X3_readEquation) (pc := 40) dX3_readEquation_40 kc_iconst_5 ?_
  refine sn_invV (y := m_X3_readEquation) (pc := 41) ca_3 (av := [vI (5 : Int32)]) (o := p0) (st := []) dX3_readEquation_41 lk_X3_135 im_X3_takeWord se_X3_takeWord rfl rfl rfl rfl ⟨by decide, by decide⟩ (c_X3_takeWord cx.1 p0 (5 : Int32)) (fun r6 => ?_)
  refine sn_if_ne (y := m_X3_readEquation) (pc := 44) (tgt := 49) dX3_readEquation_44 (by decide) (fun _ => ?_) (fun _ => ?_)
  · refine sn_aload_n (y := m_X3_readEquation) (pc := 49) dX3_readEquation_49 rfl ?_
    refine sn_aload_n (y := m_X3_readEquation) (pc := 50) dX3_readEquation_50 rfl ?_
    refine sn_getA (y := m_X3_readEquation) (pc := 51) ca_3 rfl fk_X3_46 (fun _ _ _ => rfl) dX3_readEquation_51 (fun r7 => ?_)
    refine sn_invV (y := m_X3_readEquation) (pc := 54) ca_2 (av := []) (o := r7) (st := [vA r2]) dX3_readEquation_54 lk_X3_173 im_X2_prime se_X2_prime rfl rfl rfl rfl ⟨by decide, by decide⟩ (c_X2_prime cx.1 r7) (fun r8 => ?_)
    refine sn_invV (y := m_X3_readEquation) (pc := 57) ca_1 (av := [vI r8]) (o := r2) (st := []) dX3_readEquation_57 lk_X3_176 im_X1_begin se_X1_begin rfl rfl rfl rfl ⟨by decide, by decide⟩ (c_X1_begin cx.1 r2 r8) (fun _ => ?_)
    refine sn_aload_n (y := m_X3_readEquation) (pc := 60) dX3_readEquation_60 rfl ?_
    refine sn_aload_n (y := m_X3_readEquation) (pc := 61) dX3_readEquation_61 rfl ?_
    refine sn_invV (y := m_X3_readEquation) (pc := 62) ca_3 (av := [vA r2]) (o := p0) (st := []) dX3_readEquation_62 lk_X3_181 im_X3_readTerms se_X3_readTerms rfl rfl rfl rfl ⟨by decide, by decide⟩ (c_X3_readTerms cx.1 p0 r2) (fun r9 => ?_)
    refine sn_if_eq (y := m_X3_readEquation) (pc := 65) (tgt := 77) dX3_readEquation_65 (by decide) (fun _ => ?_) (fun _ => ?_)
    · refine sn_iconst (y := m_X3_readEquation) (pc := 77) dX3_readEquation_77 kc_iconst_0 ?_
      exact sn_zreturnC (by decide) rfl dX3_readEquation_78
    refine sn_aload_n (y := m_X3_readEquation) (pc := 68) dX3_readEquation_68 rfl ?_
    refine sn_bipush (y := m_X3_readEquation) (pc := 69) dX3_readEquation_69 kc_bipush_7 ?_
    refine sn_invV (y := m_X3_readEquation) (pc := 71) ca_3 (av := [vI (7 : Int32)]) (o := p0) (st := []) dX3_readEquation_71 lk_X3_135 im_X3_takeWord se_X3_takeWord rfl rfl rfl rfl ⟨by decide, by decide⟩ (c_X3_takeWord cx.1 p0 (7 : Int32)) (fun r10 => ?_)
    refine sn_if_ne (y := m_X3_readEquation) (pc := 74) (tgt := 79) dX3_readEquation_74 (by decide) (fun _ => ?_) (fun _ => ?_)
    · refine sn_aload_n (y := m_X3_readEquation) (pc := 79) dX3_readEquation_79 rfl ?_
      refine sn_aload_n (y := m_X3_readEquation) (pc := 80) dX3_readEquation_80 rfl ?_
      refine sn_getA (y := m_X3_readEquation) (pc := 81) ca_3 rfl fk_X3_12 (fun _ _ _ => rfl) dX3_readEquation_81 (fun r11 => ?_)
      refine sn_iconst (y := m_X3_readEquation) (pc := 84) dX3_readEquation_84 kc_iconst_0 ?_
      refine sn_aload_n (y := m_X3_readEquation) (pc := 85) dX3_readEquation_85 rfl ?_
      refine sn_getA (y := m_X3_readEquation) (pc := 86) ca_3 rfl fk_X3_46 (fun _ _ _ => rfl) dX3_readEquation_86 (fun r12 => ?_)
      refine sn_invV (y := m_X3_readEquation) (pc := 89) ca_2 (av := []) (o := r12) (st := [vI (0 : Int32), vA r11, vA p0]) dX3_readEquation_89 lk_X3_173 im_X2_prime se_X2_prime rfl rfl rfl rfl ⟨by decide, by decide⟩ (c_X2_prime cx.1 r12) (fun r13 => ?_)
      refine sn_iconst (y := m_X3_readEquation) (pc := 92) dX3_readEquation_92 kc_iconst_1 ?_
      refine sn_isub (y := m_X3_readEquation) (pc := 93) dX3_readEquation_93 ?_
      refine sn_invV (y := m_X3_readEquation) (pc := 94) ca_7 (av := [vI (0 : Int32), vI (r13 - (1 : Int32))]) (o := r11) (st := [vA p0]) dX3_readEquation_94 lk_X3_185 im_X9_atWholeWithin se_X9_atWholeWithin rfl rfl rfl rfl ⟨by decide, by decide⟩ (c_X9_atWholeWithin cx.1 r11 (0 : Int32) (r13 - (1 : Int32))) (fun r14 => ?_)
      refine sn_invV (y := m_X3_readEquation) (pc := 97) ca_3 (av := [vI r14]) (o := p0) (st := []) dX3_readEquation_97 lk_X3_154 im_X3_takeWhole se_X3_takeWhole rfl rfl rfl rfl ⟨by decide, by decide⟩ (c_X3_takeWhole cx.1 p0 r14) (fun r15 => ?_)
      refine sn_if_ne (y := m_X3_readEquation) (pc := 100) (tgt := 105) dX3_readEquation_100 (by decide) (fun _ => ?_) (fun _ => ?_)
      · refine sn_aload_n (y := m_X3_readEquation) (pc := 105) dX3_readEquation_105 rfl ?_
        refine sn_aload_n (y := m_X3_readEquation) (pc := 106) dX3_readEquation_106 rfl ?_
        refine sn_getI (y := m_X3_readEquation) (pc := 107) ca_3 rfl fk_X3_58 (fun _ _ _ => rfl) dX3_readEquation_107 (fun r16 => ?_)
        refine sn_invV (y := m_X3_readEquation) (pc := 110) ca_1 (av := [vI r16]) (o := r2) (st := []) dX3_readEquation_110 lk_X3_188 im_X1_close se_X1_close rfl rfl rfl rfl ⟨by decide, by decide⟩ (c_X1_close cx.1 r2 r16) (fun _ => ?_)
        refine sn_aload_n (y := m_X3_readEquation) (pc := 113) dX3_readEquation_113 rfl ?_
        refine sn_getA (y := m_X3_readEquation) (pc := 114) ca_3 rfl fk_X3_39 (fun _ _ _ => rfl) dX3_readEquation_114 (fun r17 => ?_)
        refine sn_aload_n (y := m_X3_readEquation) (pc := 117) dX3_readEquation_117 rfl ?_
        refine sn_getJ (y := m_X3_readEquation) (pc := 118) ca_3 rfl fk_X3_54 (fun _ _ _ => rfl) dX3_readEquation_118 (fun r18 => ?_)
        refine sn_invV (y := m_X3_readEquation) (pc := 121) ca_0 (av := [vJ r18]) (o := r17) (st := []) dX3_readEquation_121 lk_X3_191 im_X0_tellEquation se_X0_tellEquation rfl rfl rfl rfl ⟨by decide, by decide⟩ (c_X0_tellEquation cx.1 r17 r18) (fun _ => ?_)
        refine sn_iconst (y := m_X3_readEquation) (pc := 124) dX3_readEquation_124 kc_iconst_1 ?_
        exact sn_zreturnC (by decide) rfl dX3_readEquation_125
      refine sn_iconst (y := m_X3_readEquation) (pc := 103) dX3_readEquation_103 kc_iconst_0 ?_
      exact sn_zreturnC (by decide) rfl dX3_readEquation_104
    refine sn_iconst (y := m_X3_readEquation) (pc := 77) dX3_readEquation_77 kc_iconst_0 ?_
    exact sn_zreturnC (by decide) rfl dX3_readEquation_78
  refine sn_iconst (y := m_X3_readEquation) (pc := 47) dX3_readEquation_47 kc_iconst_0 ?_
  exact sn_zreturnC (by decide) rfl dX3_readEquation_48
set_option maxRecDepth 100000 in
theorem c_X3_readEquation (g : Gl) (p0 : (Option Nat)) : Cn g m_X3_readEquation eI [vA p0] (mCk 3 p0 (f_X3_readEquation p0)) := cn_of_sn (by decide +kernel) rfl (fun r => ⟨r, rfl⟩) rfl (fun _ _ => sn_ck (s_X3_readEquation p0))
/-! X6_addTimes -/
def f_X6_addTimes_j39 (k3 : Int32 → Mo Unit) (x0 : (Option Nat)) (x1 : (Option Nat)) (x2 : Int64) (x4 : Int32) (s0 : Int64) (s1 : Int32) (s2 : (Option Nat)) : Mo Unit :=
  mBd (mStJ s2 s1 (s0 + (0 : Int64))) (fun _ => k3 (x4 + 1))
set_option maxRecDepth 100000 in
theorem s_X6_addTimes_j39 {cx : CX} {k3 : Int32 → Mo Unit} (x0 : (Option Nat)) (x1 : (Option Nat)) (x2 : Int64) (x4 : Int32) (s0 : Int64) (s1 : Int32) (s2 : (Option Nat)) (hk3 : ∀ (z4 : Int32), Sn cx m_X6_addTimes eV 3 [(4, vI z4), (0, vA x0), (1, vA x1), (2, vJ x2)] [] (k3 z4)) : Sn cx m_X6_addTimes eV 39 [(0, vA x0), (1, vA x1), (2, vJ x2), (4, vI x4)] [vJ s0, vI s1, vA s2] (f_X6_addTimes_j39 k3 x0 x1 x2 x4 s0 s1 s2) := by
  refine sn_lconst (y := m_X6_addTimes) (pc := 39) dX6_addTimes_39 kc_lconst_0 ?_
  refine sn_ladd (y := m_X6_addTimes) (pc := 40) dX6_addTimes_40 ?_
  refine sn_lastore (y := m_X6_addTimes) (pc := 41) dX6_addTimes_41 ?_
  refine sn_iinc (y := m_X6_addTimes) (pc := 42) (v := x4 + 1) dX6_addTimes_42 rfl (by rfl) rfl ?_
  refine sn_goto (y := m_X6_addTimes) (pc := 45) (tgt := 3) dX6_addTimes_45 (by decide) ?_
  exact sn_sub rfl (hk3 (x4 + 1))
def f_X6_addTimes_b3 (x0 : (Option Nat)) (x1 : (Option Nat)) (x2 : Int64) (k3 : Int32 → Mo Unit) (x4 : Int32) : Mo Unit :=
  (if x0 = none then mRt () else mBd (mLen x0) (fun r1 => (if x4 ≥ r1 then mRt () else mBd (mLdJ x0 x4) (fun r2 => (if x1 = none then f_X6_addTimes_j39 k3 x0 x1 x2 x4 r2 x4 x0 else mBd (mLen x1) (fun r3 => (if x4 ≥ r3 then f_X6_addTimes_j39 k3 x0 x1 x2 x4 r2 x4 x0 else mBd (mLdJ x1 x4) (fun r4 => mBd (mStJ x0 x4 (r2 + (x2 * r4))) (fun _ => k3 (x4 + 1))))))))))
def f_X6_addTimes_l3 (x0 : (Option Nat)) (x1 : (Option Nat)) (x2 : Int64) : Int32 → Mo Unit := lq1 (f_X6_addTimes_b3 x0 x1 x2) fuel
set_option maxRecDepth 100000 in
theorem s_X6_addTimes_b3 {cx : CX} (x0 : (Option Nat)) (x1 : (Option Nat)) (x2 : Int64) {k3 : Int32 → Mo Unit} (hk3 : ∀ (z4 : Int32), Sn cx m_X6_addTimes eV 3 [(4, vI z4), (0, vA x0), (1, vA x1), (2, vJ x2)] [] (k3 z4)) (x4 : Int32) : Sn cx m_X6_addTimes eV 3 [(4, vI x4), (0, vA x0), (1, vA x1), (2, vJ x2)] [] (f_X6_addTimes_b3 x0 x1 x2 k3 x4) := by
  refine sn_aload_n (y := m_X6_addTimes) (pc := 3) dX6_addTimes_3 rfl ?_
  refine sn_ifnull (y := m_X6_addTimes) (pc := 4) (tgt := 48) dX6_addTimes_4 (by decide) ?_ ?_
  · exact sn_return rfl dX6_addTimes_48
  refine sn_iload (y := m_X6_addTimes) (pc := 7) dX6_addTimes_7 rfl ?_
  refine sn_aload_n (y := m_X6_addTimes) (pc := 9) dX6_addTimes_9 rfl ?_
  refine sn_alen (y := m_X6_addTimes) (pc := 10) dX6_addTimes_10 (fun r1 => ?_)
  refine sn_icmp_ge (y := m_X6_addTimes) (pc := 11) (tgt := 48) dX6_addTimes_11 (by decide) (fun _ => ?_) (fun _ => ?_)
  · exact sn_return rfl dX6_addTimes_48
  refine sn_aload_n (y := m_X6_addTimes) (pc := 14) dX6_addTimes_14 rfl ?_
  refine sn_iload (y := m_X6_addTimes) (pc := 15) dX6_addTimes_15 rfl ?_
  refine sn_dup2 (y := m_X6_addTimes) (pc := 17) rfl rfl dX6_addTimes_17 ?_
  refine sn_laload (y := m_X6_addTimes) (pc := 18) dX6_addTimes_18 (fun r2 => ?_)
  refine sn_aload_n (y := m_X6_addTimes) (pc := 19) dX6_addTimes_19 rfl ?_
  refine sn_ifnull (y := m_X6_addTimes) (pc := 20) (tgt := 39) dX6_addTimes_20 (by decide) ?_ ?_
  · exact sn_sub rfl (s_X6_addTimes_j39 x0 x1 x2 x4 r2 x4 x0 hk3)
  refine sn_iload (y := m_X6_addTimes) (pc := 23) dX6_addTimes_23 rfl ?_
  refine sn_aload_n (y := m_X6_addTimes) (pc := 25) dX6_addTimes_25 rfl ?_
  refine sn_alen (y := m_X6_addTimes) (pc := 26) dX6_addTimes_26 (fun r3 => ?_)
  refine sn_icmp_ge (y := m_X6_addTimes) (pc := 27) (tgt := 39) dX6_addTimes_27 (by decide) (fun _ => ?_) (fun _ => ?_)
  · exact sn_sub rfl (s_X6_addTimes_j39 x0 x1 x2 x4 r2 x4 x0 hk3)
  refine sn_lload_n (y := m_X6_addTimes) (pc := 30) dX6_addTimes_30 rfl ?_
  refine sn_aload_n (y := m_X6_addTimes) (pc := 31) dX6_addTimes_31 rfl ?_
  refine sn_iload (y := m_X6_addTimes) (pc := 32) dX6_addTimes_32 rfl ?_
  refine sn_laload (y := m_X6_addTimes) (pc := 34) dX6_addTimes_34 (fun r4 => ?_)
  refine sn_lmul (y := m_X6_addTimes) (pc := 35) dX6_addTimes_35 ?_
  refine sn_goto (y := m_X6_addTimes) (pc := 36) (tgt := 40) dX6_addTimes_36 (by decide) ?_
  refine sn_ladd (y := m_X6_addTimes) (pc := 40) dX6_addTimes_40 ?_
  refine sn_lastore (y := m_X6_addTimes) (pc := 41) dX6_addTimes_41 ?_
  refine sn_iinc (y := m_X6_addTimes) (pc := 42) (v := x4 + 1) dX6_addTimes_42 rfl (by rfl) rfl ?_
  refine sn_goto (y := m_X6_addTimes) (pc := 45) (tgt := 3) dX6_addTimes_45 (by decide) ?_
  exact sn_sub rfl (hk3 (x4 + 1))
set_option maxRecDepth 100000 in
theorem s_X6_addTimes_l3 {cx : CX} (x0 : (Option Nat)) (x1 : (Option Nat)) (x2 : Int64) (x4 : Int32) : Sn cx m_X6_addTimes eV 3 [(4, vI x4), (0, vA x0), (1, vA x1), (2, vJ x2)] [] (f_X6_addTimes_l3 x0 x1 x2 x4) :=
  sn_lq1 (L := fun x4 => [(4, vI x4), (0, vA x0), (1, vA x1), (2, vJ x2)]) (fun k hk x4 => s_X6_addTimes_b3 x0 x1 x2 hk x4) fuel x4
def f_X6_addTimes (p0 : (Option Nat)) (p1 : (Option Nat)) (p2 : Int64) : Mo Unit :=
  f_X6_addTimes_l3 p0 p1 p2 (0 : Int32)
set_option maxRecDepth 100000 in
theorem s_X6_addTimes {cx : CX} (p0 : (Option Nat)) (p1 : (Option Nat)) (p2 : Int64) : Sn cx m_X6_addTimes eV 0 [(0, vA p0), (1, vA p1), (2, vJ p2)] [] (f_X6_addTimes p0 p1 p2) := by
  refine sn_iconst (y := m_X6_addTimes) (pc := 0) dX6_addTimes_0 kc_iconst_0 ?_
  refine sn_istore (y := m_X6_addTimes) (pc := 1) dX6_addTimes_1 rfl ?_
  exact sn_sub rfl (s_X6_addTimes_l3 p0 p1 p2 (0 : Int32))
set_option maxRecDepth 100000 in
theorem c_X6_addTimes (g : Gl) (p0 : (Option Nat)) (p1 : (Option Nat)) (p2 : Int64) : Cn g m_X6_addTimes eV [vA p0, vA p1, vJ p2] (f_X6_addTimes p0 p1 p2) := cn_of_sn (by decide +kernel) rfl (fun _ => rfl) rfl (fun _ _ => s_X6_addTimes p0 p1 p2)
/-! X6_isHuge -/
def f_X6_isHuge_b2 (x0 : (Option Nat)) (k2 : Int32 → Mo Int32) (x1 : Int32) : Mo Int32 :=
  (if x0 = none then mRt (0 : Int32) else mBd (mLen x0) (fun r1 => (if x1 ≥ r1 then mRt (0 : Int32) else mBd (mLdJ x0 x1) (fun r2 => (if r2 > (100000000 : Int64) then mRt (1 : Int32) else mBd (mLdJ x0 x1) (fun r3 => (if r3 ≥ (-100000000 : Int64) then k2 (x1 + 1) else mRt (1 : Int32))))))))
def f_X6_isHuge_l2 (x0 : (Option Nat)) : Int32 → Mo Int32 := lq1 (f_X6_isHuge_b2 x0) fuel
set_option maxRecDepth 100000 in
theorem s_X6_isHuge_b2 {cx : CX} (x0 : (Option Nat)) {k2 : Int32 → Mo Int32} (hk2 : ∀ (z1 : Int32), Sn cx m_X6_isHuge eI 2 [(1, vI z1), (0, vA x0)] [] (k2 z1)) (x1 : Int32) : Sn cx m_X6_isHuge eI 2 [(1, vI x1), (0, vA x0)] [] (f_X6_isHuge_b2 x0 k2 x1) := by
  refine sn_aload_n (y := m_X6_isHuge) (pc := 2) dX6_isHuge_2 rfl ?_
  refine sn_ifnull (y := m_X6_isHuge) (pc := 3) (tgt := 40) dX6_isHuge_3 (by decide) ?_ ?_
  · refine sn_iconst (y := m_X6_isHuge) (pc := 40) dX6_isHuge_40 kc_iconst_0 ?_
    exact sn_zreturnC (by decide) rfl dX6_isHuge_41
  refine sn_iload_n (y := m_X6_isHuge) (pc := 6) dX6_isHuge_6 rfl ?_
  refine sn_aload_n (y := m_X6_isHuge) (pc := 7) dX6_isHuge_7 rfl ?_
  refine sn_alen (y := m_X6_isHuge) (pc := 8) dX6_isHuge_8 (fun r1 => ?_)
  refine sn_icmp_ge (y := m_X6_isHuge) (pc := 9) (tgt := 40) dX6_isHuge_9 (by decide) (fun _ => ?_) (fun _ => ?_)
  · refine sn_iconst (y := m_X6_isHuge) (pc := 40) dX6_isHuge_40 kc_iconst_0 ?_
    exact sn_zreturnC (by decide) rfl dX6_isHuge_41
  refine sn_aload_n (y := m_X6_isHuge) (pc := 12) dX6_isHuge_12 rfl ?_
  refine sn_iload_n (y := m_X6_isHuge) (pc := 13) dX6_isHuge_13 rfl ?_
  refine sn_laload (y := m_X6_isHuge) (pc := 14) dX6_isHuge_14 (fun r2 => ?_)
  refine sn_ldcJ (y := m_X6_isHuge) (pc := 15) kj_X6_9 dX6_isHuge_15 ?_
  refine sn_lc_gt (y := m_X6_isHuge) (pc := 18) (tgt := 32) dX6_isHuge_18 dX6_isHuge_19 (by decide) (fun _ => ?_) (fun _ => ?_)
  · refine sn_iconst (y := m_X6_isHuge) (pc := 32) dX6_isHuge_32 kc_iconst_1 ?_
    exact sn_zreturnC (by decide) rfl dX6_isHuge_33
  refine sn_aload_n (y := m_X6_isHuge) (pc := 22) dX6_isHuge_22 rfl ?_
  refine sn_iload_n (y := m_X6_isHuge) (pc := 23) dX6_isHuge_23 rfl ?_
  refine sn_laload (y := m_X6_isHuge) (pc := 24) dX6_isHuge_24 (fun r3 => ?_)
  refine sn_ldcJ (y := m_X6_isHuge) (pc := 25) kj_X6_11 dX6_isHuge_25 ?_
  refine sn_lc_ge (y := m_X6_isHuge) (pc := 28) (tgt := 34) dX6_isHuge_28 dX6_isHuge_29 (by decide) (fun _ => ?_) (fun _ => ?_)
  · refine sn_iinc (y := m_X6_isHuge) (pc := 34) (v := x1 + 1) dX6_isHuge_34 rfl (by rfl) rfl ?_
    refine sn_goto (y := m_X6_isHuge) (pc := 37) (tgt := 2) dX6_isHuge_37 (by decide) ?_
    exact sn_sub rfl (hk2 (x1 + 1))
  refine sn_iconst (y := m_X6_isHuge) (pc := 32) dX6_isHuge_32 kc_iconst_1 ?_
  exact sn_zreturnC (by decide) rfl dX6_isHuge_33
set_option maxRecDepth 100000 in
theorem s_X6_isHuge_l2 {cx : CX} (x0 : (Option Nat)) (x1 : Int32) : Sn cx m_X6_isHuge eI 2 [(1, vI x1), (0, vA x0)] [] (f_X6_isHuge_l2 x0 x1) :=
  sn_lq1 (L := fun x1 => [(1, vI x1), (0, vA x0)]) (fun k hk x1 => s_X6_isHuge_b2 x0 hk x1) fuel x1
def f_X6_isHuge (p0 : (Option Nat)) : Mo Int32 :=
  f_X6_isHuge_l2 p0 (0 : Int32)
set_option maxRecDepth 100000 in
theorem s_X6_isHuge {cx : CX} (p0 : (Option Nat)) : Sn cx m_X6_isHuge eI 0 [(0, vA p0)] [] (f_X6_isHuge p0) := by
  refine sn_iconst (y := m_X6_isHuge) (pc := 0) dX6_isHuge_0 kc_iconst_0 ?_
  refine sn_istore_n (y := m_X6_isHuge) (pc := 1) dX6_isHuge_1 rfl ?_
  exact sn_sub rfl (s_X6_isHuge_l2 p0 (0 : Int32))
set_option maxRecDepth 100000 in
theorem c_X6_isHuge (g : Gl) (p0 : (Option Nat)) : Cn g m_X6_isHuge eI [vA p0] (f_X6_isHuge p0) := cn_of_sn (by decide +kernel) rfl (fun r => ⟨r, rfl⟩) rfl (fun _ _ => s_X6_isHuge p0)
/-! X3_readLetName -/
def f_X3_readLetName (p0 : (Option Nat)) (p1 : (Option Nat)) : Mo Int32 :=
  mBd (mGetA 3 5 p0) (fun r1 => mBd (mGetA 3 0 p0) (fun r2 => mBd (mCk 7 r2 (f_X9_nameNow r2)) (fun r3 => mBd (mCk 0 r1 (f_X0_find r1 r3 (3 : Int32))) (fun r4 => (if r4 < 0 then mBd (mCk 3 p0 (f_X3_blame p0 (2 : Int32))) (fun r5 => mRq (r5 = 0 ∨ r5 = 1) (mRt r5)) else mBd (mGetA 3 5 p0) (fun r6 => mBd (mCk 0 r6 (f_X0_letFieldAt r6 r4)) (fun r7 => mBd (mGetI 3 7 p0) (fun r8 => (if r7 = r8 then mBd (mGetA 3 5 p0) (fun r9 => mBd (mCk 0 r9 (f_X0_letRowAt r9 r4)) (fun r10 => mBd (f_X6_copy r10 p1) (fun _ => mBd (mGetA 3 0 p0) (fun r11 => mBd (mCk 7 r11 (f_X9_step r11)) (fun _ => mRt (1 : Int32)))))) else mBd (mCk 3 p0 (f_X3_blame p0 (2 : Int32))) (fun r12 => mRq (r12 = 0 ∨ r12 = 1) (mRt r12)))))))))))
set_option maxRecDepth 100000 in
theorem s_X3_readLetName {cx : CX} (p0 : (Option Nat)) (p1 : (Option Nat)) : Sn cx m_X3_readLetName eI 0 [(0, vA p0), (1, vA p1)] [] (f_X3_readLetName p0 p1) := by
  refine sn_aload_n (y := m_X3_readLetName) (pc := 0) dX3_readLetName_0 rfl ?_
  refine sn_getA (y := m_X3_readLetName) (pc := 1) ca_3 rfl fk_X3_39 (fun _ _ _ => rfl) dX3_readLetName_1 (fun r1 => ?_)
  refine sn_aload_n (y := m_X3_readLetName) (pc := 4) dX3_readLetName_4 rfl ?_
  refine sn_getA (y := m_X3_readLetName) (pc := 5) ca_3 rfl fk_X3_12 (fun _ _ _ => rfl) dX3_readLetName_5 (fun r2 => ?_)
  refine sn_invV (y := m_X3_readLetName) (pc := 8) ca_7 (av := []) (o := r2) (st := [vA r1]) dX3_readLetName_8 lk_X3_127 im_X9_nameNow se_X9_nameNow rfl rfl rfl rfl ⟨by decide, by decide⟩ (c_X9_nameNow cx.1 r2) (fun r3 => ?_)
  refine sn_iconst (y := m_X3_readLetName) (pc := 11) dX3_readLetName_11 kc_iconst_3 ?_
  refine sn_invV (y := m_X3_readLetName) (pc := 12) ca_0 (av := [vJ r3, vI (3 : Int32)]) (o := r1) (st := []) dX3_readLetName_12 lk_X3_138 im_X0_find se_X0_find rfl rfl rfl rfl ⟨by decide, by decide⟩ (c_X0_find cx.1 r1 r3 (3 : Int32)) (fun r4 => ?_)
  refine sn_istore_n (y := m_X3_readLetName) (pc := 15) dX3_readLetName_15 rfl ?_
  refine sn_iload_n (y := m_X3_readLetName) (pc := 16) dX3_readLetName_16 rfl ?_
  refine sn_if_lt (y := m_X3_readLetName) (pc := 17) (tgt := 35) dX3_readLetName_17 (by decide) (fun _ => ?_) (fun _ => ?_)
  · refine sn_aload_n (y := m_X3_readLetName) (pc := 35) dX3_readLetName_35 rfl ?_
    refine sn_iconst (y := m_X3_readLetName) (pc := 36) dX3_readLetName_36 kc_iconst_2 ?_
    refine sn_invV (y := m_X3_readLetName) (pc := 37) ca_3 (av := [vI (2 : Int32)]) (o := p0) (st := []) dX3_readLetName_37 lk_X3_111 im_X3_blame se_X3_blame rfl rfl rfl rfl ⟨by decide, by decide⟩ (c_X3_blame cx.1 p0 (2 : Int32)) (fun r5 => ?_)
    exact sn_zreturn rfl dX3_readLetName_40
  refine sn_aload_n (y := m_X3_readLetName) (pc := 20) dX3_readLetName_20 rfl ?_
  refine sn_getA (y := m_X3_readLetName) (pc := 21) ca_3 rfl fk_X3_39 (fun _ _ _ => rfl) dX3_readLetName_21 (fun r6 => ?_)
  refine sn_iload_n (y := m_X3_readLetName) (pc := 24) dX3_readLetName_24 rfl ?_
  refine sn_invV (y := m_X3_readLetName) (pc := 25) ca_0 (av := [vI r4]) (o := r6) (st := []) dX3_readLetName_25 lk_X3_271 im_X0_letFieldAt se_X0_letFieldAt rfl rfl rfl rfl ⟨by decide, by decide⟩ (c_X0_letFieldAt cx.1 r6 r4) (fun r7 => ?_)
  refine sn_aload_n (y := m_X3_readLetName) (pc := 28) dX3_readLetName_28 rfl ?_
  refine sn_getI (y := m_X3_readLetName) (pc := 29) ca_3 rfl fk_X3_50 (fun _ _ _ => rfl) dX3_readLetName_29 (fun r8 => ?_)
  refine sn_icmp_eq (y := m_X3_readLetName) (pc := 32) (tgt := 41) dX3_readLetName_32 (by decide) (fun _ => ?_) (fun _ => ?_)
  · refine sn_aload_n (y := m_X3_readLetName) (pc := 41) dX3_readLetName_41 rfl ?_
    refine sn_getA (y := m_X3_readLetName) (pc := 42) ca_3 rfl fk_X3_39 (fun _ _ _ => rfl) dX3_readLetName_42 (fun r9 => ?_)
    refine sn_iload_n (y := m_X3_readLetName) (pc := 45) dX3_readLetName_45 rfl ?_
    refine sn_invV (y := m_X3_readLetName) (pc := 46) ca_0 (av := [vI r4]) (o := r9) (st := []) dX3_readLetName_46 lk_X3_275 im_X0_letRowAt se_X0_letRowAt rfl rfl rfl rfl ⟨by decide, by decide⟩ (c_X0_letRowAt cx.1 r9 r4) (fun r10 => ?_)
    refine sn_aload_n (y := m_X3_readLetName) (pc := 49) dX3_readLetName_49 rfl ?_
    refine sn_invS (y := m_X3_readLetName) (pc := 50) (av := [vA r10, vA p1]) (st := []) dX3_readLetName_50 lk_X3_225 sw_X6_copy rfl rfl rfl ⟨by decide, by decide⟩ (c_X6_copy cx.1 r10 p1) (fun _ => ?_)
    refine sn_aload_n (y := m_X3_readLetName) (pc := 53) dX3_readLetName_53 rfl ?_
    refine sn_getA (y := m_X3_readLetName) (pc := 54) ca_3 rfl fk_X3_12 (fun _ _ _ => rfl) dX3_readLetName_54 (fun r11 => ?_)
    refine sn_invV (y := m_X3_readLetName) (pc := 57) ca_7 (av := []) (o := r11) (st := []) dX3_readLetName_57 lk_X3_92 im_X9_step se_X9_step rfl rfl rfl rfl ⟨by decide, by decide⟩ (c_X9_step cx.1 r11) (fun _ => ?_)
    refine sn_iconst (y := m_X3_readLetName) (pc := 60) dX3_readLetName_60 kc_iconst_1 ?_
    exact sn_zreturnC (by decide) rfl dX3_readLetName_61
  refine sn_aload_n (y := m_X3_readLetName) (pc := 35) dX3_readLetName_35 rfl ?_
  refine sn_iconst (y := m_X3_readLetName) (pc := 36) dX3_readLetName_36 kc_iconst_2 ?_
  refine sn_invV (y := m_X3_readLetName) (pc := 37) ca_3 (av := [vI (2 : Int32)]) (o := p0) (st := []) dX3_readLetName_37 lk_X3_111 im_X3_blame se_X3_blame rfl rfl rfl rfl ⟨by decide, by decide⟩ (c_X3_blame cx.1 p0 (2 : Int32)) (fun r12 => ?_)
  exact sn_zreturn rfl dX3_readLetName_40
set_option maxRecDepth 100000 in
theorem c_X3_readLetName (g : Gl) (p0 : (Option Nat)) (p1 : (Option Nat)) : Cn g m_X3_readLetName eI [vA p0, vA p1] (mCk 3 p0 (f_X3_readLetName p0 p1)) := cn_of_sn (by decide +kernel) rfl (fun r => ⟨r, rfl⟩) rfl (fun _ _ => sn_ck (s_X3_readLetName p0 p1))
/-! X5_powerOfZ -/
def f_X5_powerOfZ (p0 : (Option Nat)) (p1 : Int32) (p2 : (Option Nat)) (p3 : Int32) : Mo Unit :=
  mBd (mCk 5 p0 (f_X5_clear p0)) (fun _ => mBd (mCk 5 p0 (f_X5_collect p0 p1 (1 : Int64) p3)) (fun _ => mBd (mCk 5 p0 (f_X5_settle p0 p2 p3)) (fun _ => mRt ())))
set_option maxRecDepth 100000 in
theorem s_X5_powerOfZ {cx : CX} (p0 : (Option Nat)) (p1 : Int32) (p2 : (Option Nat)) (p3 : Int32) : Sn cx m_X5_powerOfZ eV 0 [(0, vA p0), (1, vI p1), (2, vA p2), (3, vI p3)] [] (f_X5_powerOfZ p0 p1 p2 p3) := by
  refine sn_aload_n (y := m_X5_powerOfZ) (pc := 0) dX5_powerOfZ_0 rfl ?_
  refine sn_invV (y := m_X5_powerOfZ) (pc := 1) ca_5 (av := []) (o := p0) (st := []) dX5_powerOfZ_1 lk_X5_54 im_X5_clear se_X5_clear rfl rfl rfl rfl ⟨by decide, by decide⟩ (c_X5_clear cx.1 p0) (fun _ => ?_)
  refine sn_aload_n (y := m_X5_powerOfZ) (pc := 4) dX5_powerOfZ_4 rfl ?_
  refine sn_iload_n (y := m_X5_powerOfZ) (pc := 5) dX5_powerOfZ_5 rfl ?_
  refine sn_lconst (y := m_X5_powerOfZ) (pc := 6) dX5_powerOfZ_6 kc_lconst_1 ?_
  refine sn_iload_n (y := m_X5_powerOfZ) (pc := 7) dX5_powerOfZ_7 rfl ?_
  refine sn_invV (y := m_X5_powerOfZ) (pc := 8) ca_5 (av := [vI p1, vJ (1 : Int64), vI p3]) (o := p0) (st := []) dX5_powerOfZ_8 lk_X5_57 im_X5_collect se_X5_collect rfl rfl rfl rfl ⟨by decide, by decide⟩ (c_X5_collect cx.1 p0 p1 (1 : Int64) p3) (fun _ => ?_)
  refine sn_aload_n (y := m_X5_powerOfZ) (pc := 11) dX5_powerOfZ_11 rfl ?_
  refine sn_aload_n (y := m_X5_powerOfZ) (pc := 12) dX5_powerOfZ_12 rfl ?_
  refine sn_iload_n (y := m_X5_powerOfZ) (pc := 13) dX5_powerOfZ_13 rfl ?_
  refine sn_invV (y := m_X5_powerOfZ) (pc := 14) ca_5 (av := [vA p2, vI p3]) (o := p0) (st := []) dX5_powerOfZ_14 lk_X5_61 im_X5_settle se_X5_settle rfl rfl rfl rfl ⟨by decide, by decide⟩ (c_X5_settle cx.1 p0 p2 p3) (fun _ => ?_)
  exact sn_return rfl dX5_powerOfZ_17
set_option maxRecDepth 100000 in
theorem c_X5_powerOfZ (g : Gl) (p0 : (Option Nat)) (p1 : Int32) (p2 : (Option Nat)) (p3 : Int32) : Cn g m_X5_powerOfZ eV [vA p0, vI p1, vA p2, vI p3] (mCk 5 p0 (f_X5_powerOfZ p0 p1 p2 p3)) := cn_of_sn (by decide +kernel) rfl (fun _ => rfl) rfl (fun _ _ => sn_ck (s_X5_powerOfZ p0 p1 p2 p3))
/-! X3_takeSign -/
def f_X3_takeSign (p0 : (Option Nat)) (p1 : Int32) : Mo Int32 :=
  mBd (mGetA 3 0 p0) (fun r1 => mBd (mCk 7 r1 (f_X9_atSign r1 p1)) (fun r2 => (if ¬ r2 = 0 then mBd (mGetA 3 0 p0) (fun r3 => mBd (mCk 7 r3 (f_X9_step r3)) (fun _ => mRt (1 : Int32))) else mBd (mCk 3 p0 (f_X3_blame p0 (1 : Int32))) (fun r4 => mRq (r4 = 0 ∨ r4 = 1) (mRt r4)))))
set_option maxRecDepth 100000 in
theorem s_X3_takeSign {cx : CX} (p0 : (Option Nat)) (p1 : Int32) : Sn cx m_X3_takeSign eI 0 [(0, vA p0), (1, vI p1)] [] (f_X3_takeSign p0 p1) := by
  refine sn_aload_n (y := m_X3_takeSign) (pc := 0) dX3_takeSign_0 rfl ?_
  refine sn_getA (y := m_X3_takeSign) (pc := 1) ca_3 rfl fk_X3_12 (fun _ _ _ => rfl) dX3_takeSign_1 (fun r1 => ?_)
  refine sn_iload_n (y := m_X3_takeSign) (pc := 4) dX3_takeSign_4 rfl ?_
  refine sn_invV (y := m_X3_takeSign) (pc := 5) ca_7 (av := [vI p1]) (o := r1) (st := []) dX3_takeSign_5 lk_X3_114 im_X9_atSign se_X9_atSign rfl rfl rfl rfl ⟨by decide, by decide⟩ (c_X9_atSign cx.1 r1 p1) (fun r2 => ?_)
  refine sn_if_ne (y := m_X3_takeSign) (pc := 8) (tgt := 17) dX3_takeSign_8 (by decide) (fun _ => ?_) (fun _ => ?_)
  · refine sn_aload_n (y := m_X3_takeSign) (pc := 17) dX3_takeSign_17 rfl ?_
    refine sn_getA (y := m_X3_takeSign) (pc := 18) ca_3 rfl fk_X3_12 (fun _ _ _ => rfl) dX3_takeSign_18 (fun r3 => ?_)
    refine sn_invV (y := m_X3_takeSign) (pc := 21) ca_7 (av := []) (o := r3) (st := []) dX3_takeSign_21 lk_X3_92 im_X9_step se_X9_step rfl rfl rfl rfl ⟨by decide, by decide⟩ (c_X9_step cx.1 r3) (fun _ => ?_)
    refine sn_iconst (y := m_X3_takeSign) (pc := 24) dX3_takeSign_24 kc_iconst_1 ?_
    exact sn_zreturnC (by decide) rfl dX3_takeSign_25
  refine sn_aload_n (y := m_X3_takeSign) (pc := 11) dX3_takeSign_11 rfl ?_
  refine sn_iconst (y := m_X3_takeSign) (pc := 12) dX3_takeSign_12 kc_iconst_1 ?_
  refine sn_invV (y := m_X3_takeSign) (pc := 13) ca_3 (av := [vI (1 : Int32)]) (o := p0) (st := []) dX3_takeSign_13 lk_X3_111 im_X3_blame se_X3_blame rfl rfl rfl rfl ⟨by decide, by decide⟩ (c_X3_blame cx.1 p0 (1 : Int32)) (fun r4 => ?_)
  exact sn_zreturn rfl dX3_takeSign_16
set_option maxRecDepth 100000 in
theorem c_X3_takeSign (g : Gl) (p0 : (Option Nat)) (p1 : Int32) : Cn g m_X3_takeSign eI [vA p0, vI p1] (mCk 3 p0 (f_X3_takeSign p0 p1)) := cn_of_sn (by decide +kernel) rfl (fun r => ⟨r, rfl⟩) rfl (fun _ _ => sn_ck (s_X3_takeSign p0 p1))
/-! X3_takeTwoCharacters -/
def f_X3_takeTwoCharacters (p0 : (Option Nat)) : Mo Int32 :=
  mBd (mGetA 3 6 p0) (fun r1 => mBd (mCk 2 r1 (f_X2_order r1)) (fun r2 => mNm (r2 - (1 : Int32)) (fun n3 => mBd (mGetA 3 0 p0) (fun r4 => mBd (mCk 7 r4 (f_X9_atWholeWithin r4 (0 : Int32) n3)) (fun r5 => mBd (mCk 3 p0 (f_X3_takeWhole p0 r5)) (fun r6 => (if ¬ r6 = 0 then mBd (mGetI 3 9 p0) (fun r7 => mBd (mPutI 3 10 p0 r7) (fun _ => mBd (mCk 3 p0 (f_X3_takeSign p0 (44 : Int32))) (fun r8 => (if r8 = 0 then mRt (0 : Int32) else mBd (mGetA 3 0 p0) (fun r9 => mBd (mCk 7 r9 (f_X9_atWholeWithin r9 (0 : Int32) n3)) (fun r10 => mBd (mCk 3 p0 (f_X3_takeWhole p0 r10)) (fun r11 => (if r11 = 0 then mRt (0 : Int32) else mRt (1 : Int32))))))))) else mRt (0 : Int32))))))))
set_option maxRecDepth 100000 in
theorem s_X3_takeTwoCharacters {cx : CX} (p0 : (Option Nat)) : Sn cx m_X3_takeTwoCharacters eI 0 [(0, vA p0)] [] (f_X3_takeTwoCharacters p0) := by
  refine sn_aload_n (y := m_X3_takeTwoCharacters) (pc := 0) dX3_takeTwoCharacters_0 rfl ?_
  refine sn_getA (y := m_X3_takeTwoCharacters) (pc := 1) ca_3 rfl fk_X3_46 (fun _ _ _ => rfl) dX3_takeTwoCharacters_1 (fun r1 => ?_)
  refine sn_invV (y := m_X3_takeTwoCharacters) (pc := 4) ca_2 (av := []) (o := r1) (st := []) dX3_takeTwoCharacters_4 lk_X3_242 im_X2_order se_X2_order rfl rfl rfl rfl ⟨by decide, by decide⟩ (c_X2_order cx.1 r1) (fun r2 => ?_)
  refine sn_iconst (y := m_X3_takeTwoCharacters) (pc := 7) dX3_takeTwoCharacters_7 kc_iconst_1 ?_
  refine sn_isub (y := m_X3_takeTwoCharacters) (pc := 8) dX3_takeTwoCharacters_8 ?_
  refine sn_istore_nM (y := m_X3_takeTwoCharacters) (pc := 9) dX3_takeTwoCharacters_9 rfl (fun n3 => ?_)
  refine sn_aload_n (y := m_X3_takeTwoCharacters) (pc := 10) dX3_takeTwoCharacters_10 rfl ?_
  refine sn_aload_n (y := m_X3_takeTwoCharacters) (pc := 11) dX3_takeTwoCharacters_11 rfl ?_
  refine sn_getA (y := m_X3_takeTwoCharacters) (pc := 12) ca_3 rfl fk_X3_12 (fun _ _ _ => rfl) dX3_takeTwoCharacters_12 (fun r4 => ?_)
  refine sn_iconst (y := m_X3_takeTwoCharacters) (pc := 15) dX3_takeTwoCharacters_15 kc_iconst_0 ?_
  refine sn_iload_n (y := m_X3_takeTwoCharacters) (pc := 16) dX3_takeTwoCharacters_16 rfl ?_
  refine sn_invV (y := m_X3_takeTwoCharacters) (pc := 17) ca_7 (av := [vI (0 : Int32), vI n3]) (o := r4) (st := [vA p0]) dX3_takeTwoCharacters_17 lk_X3_185 im_X9_atWholeWithin se_X9_atWholeWithin rfl rfl rfl rfl ⟨by decide, by decide⟩ (c_X9_atWholeWithin cx.1 r4 (0 : Int32) n3) (fun r5 => ?_)
  refine sn_invV (y := m_X3_takeTwoCharacters) (pc := 20) ca_3 (av := [vI r5]) (o := p0) (st := []) dX3_takeTwoCharacters_20 lk_X3_154 im_X3_takeWhole se_X3_takeWhole rfl rfl rfl rfl ⟨by decide, by decide⟩ (c_X3_takeWhole cx.1 p0 r5) (fun r6 => ?_)
  refine sn_if_ne (y := m_X3_takeTwoCharacters) (pc := 23) (tgt := 28) dX3_takeTwoCharacters_23 (by decide) (fun _ => ?_) (fun _ => ?_)
  · refine sn_aload_n (y := m_X3_takeTwoCharacters) (pc := 28) dX3_takeTwoCharacters_28 rfl ?_
    refine sn_aload_n (y := m_X3_takeTwoCharacters) (pc := 29) dX3_takeTwoCharacters_29 rfl ?_
    refine sn_getI (y := m_X3_takeTwoCharacters) (pc := 30) ca_3 rfl fk_X3_58 (fun _ _ _ => rfl) dX3_takeTwoCharacters_30 (fun r7 => ?_)
    refine sn_putI (y := m_X3_takeTwoCharacters) (pc := 33) ca_3 rfl fk_X3_61 (Or.inl rfl) rfl dX3_takeTwoCharacters_33 ?_
    refine sn_aload_n (y := m_X3_takeTwoCharacters) (pc := 36) dX3_takeTwoCharacters_36 rfl ?_
    refine sn_bipush (y := m_X3_takeTwoCharacters) (pc := 37) dX3_takeTwoCharacters_37 kc_bipush_44 ?_
    refine sn_invV (y := m_X3_takeTwoCharacters) (pc := 39) ca_3 (av := [vI (44 : Int32)]) (o := p0) (st := []) dX3_takeTwoCharacters_39 lk_X3_279 im_X3_takeSign se_X3_takeSign rfl rfl rfl rfl ⟨by decide, by decide⟩ (c_X3_takeSign cx.1 p0 (44 : Int32)) (fun r8 => ?_)
    refine sn_if_eq (y := m_X3_takeTwoCharacters) (pc := 42) (tgt := 65) dX3_takeTwoCharacters_42 (by decide) (fun _ => ?_) (fun _ => ?_)
    · refine sn_iconst (y := m_X3_takeTwoCharacters) (pc := 65) dX3_takeTwoCharacters_65 kc_iconst_0 ?_
      exact sn_zreturnC (by decide) rfl dX3_takeTwoCharacters_66
    refine sn_aload_n (y := m_X3_takeTwoCharacters) (pc := 45) dX3_takeTwoCharacters_45 rfl ?_
    refine sn_aload_n (y := m_X3_takeTwoCharacters) (pc := 46) dX3_takeTwoCharacters_46 rfl ?_
    refine sn_getA (y := m_X3_takeTwoCharacters) (pc := 47) ca_3 rfl fk_X3_12 (fun _ _ _ => rfl) dX3_takeTwoCharacters_47 (fun r9 => ?_)
    refine sn_iconst (y := m_X3_takeTwoCharacters) (pc := 50) dX3_takeTwoCharacters_50 kc_iconst_0 ?_
    refine sn_iload_n (y := m_X3_takeTwoCharacters) (pc := 51) dX3_takeTwoCharacters_51 rfl ?_
    refine sn_invV (y := m_X3_takeTwoCharacters) (pc := 52) ca_7 (av := [vI (0 : Int32), vI n3]) (o := r9) (st := [vA p0]) dX3_takeTwoCharacters_52 lk_X3_185 im_X9_atWholeWithin se_X9_atWholeWithin rfl rfl rfl rfl ⟨by decide, by decide⟩ (c_X9_atWholeWithin cx.1 r9 (0 : Int32) n3) (fun r10 => ?_)
    refine sn_invV (y := m_X3_takeTwoCharacters) (pc := 55) ca_3 (av := [vI r10]) (o := p0) (st := []) dX3_takeTwoCharacters_55 lk_X3_154 im_X3_takeWhole se_X3_takeWhole rfl rfl rfl rfl ⟨by decide, by decide⟩ (c_X3_takeWhole cx.1 p0 r10) (fun r11 => ?_)
    refine sn_if_eq (y := m_X3_takeTwoCharacters) (pc := 58) (tgt := 65) dX3_takeTwoCharacters_58 (by decide) (fun _ => ?_) (fun _ => ?_)
    · refine sn_iconst (y := m_X3_takeTwoCharacters) (pc := 65) dX3_takeTwoCharacters_65 kc_iconst_0 ?_
      exact sn_zreturnC (by decide) rfl dX3_takeTwoCharacters_66
    refine sn_iconst (y := m_X3_takeTwoCharacters) (pc := 61) dX3_takeTwoCharacters_61 kc_iconst_1 ?_
    refine sn_goto (y := m_X3_takeTwoCharacters) (pc := 62) (tgt := 66) dX3_takeTwoCharacters_62 (by decide) ?_
    exact sn_zreturnC (by decide) rfl dX3_takeTwoCharacters_66
  refine sn_iconst (y := m_X3_takeTwoCharacters) (pc := 26) dX3_takeTwoCharacters_26 kc_iconst_0 ?_
  exact sn_zreturnC (by decide) rfl dX3_takeTwoCharacters_27
set_option maxRecDepth 100000 in
theorem c_X3_takeTwoCharacters (g : Gl) (p0 : (Option Nat)) : Cn g m_X3_takeTwoCharacters eI [vA p0] (mCk 3 p0 (f_X3_takeTwoCharacters p0)) := cn_of_sn (by decide +kernel) rfl (fun r => ⟨r, rfl⟩) rfl (fun _ _ => sn_ck (s_X3_takeTwoCharacters p0))
/-! X5_turnRow -/
def f_X5_turnRow_b14 (x0 : (Option Nat)) (x1 : (Option Nat)) (x2 : Int32) (x3 : (Option Nat)) (x4 : Int32) (x5 : Int32) (k14 : Int32 → Mo Unit) (x6 : Int32) : Mo Unit :=
  (if x6 ≥ x5 then mBd (mCk 5 x0 (f_X5_settle x0 x3 x4)) (fun _ => mRt ()) else mBd (f_X6_at x1 x6) (fun r2 => mBd (mCk 5 x0 (f_X5_collect x0 (x6 * x2) r2 x4)) (fun _ => k14 (x6 + 1))))
def f_X5_turnRow_l14 (x0 : (Option Nat)) (x1 : (Option Nat)) (x2 : Int32) (x3 : (Option Nat)) (x4 : Int32) (x5 : Int32) : Int32 → Mo Unit := lq1 (f_X5_turnRow_b14 x0 x1 x2 x3 x4 x5) fuel
set_option maxRecDepth 100000 in
theorem s_X5_turnRow_b14 {cx : CX} (x0 : (Option Nat)) (x1 : (Option Nat)) (x2 : Int32) (x3 : (Option Nat)) (x4 : Int32) (x5 : Int32) {k14 : Int32 → Mo Unit} (hk14 : ∀ (z6 : Int32), Sn cx m_X5_turnRow eV 14 [(6, vI z6), (0, vA x0), (1, vA x1), (2, vI x2), (3, vA x3), (4, vI x4), (5, vI x5)] [] (k14 z6)) (x6 : Int32) : Sn cx m_X5_turnRow eV 14 [(6, vI x6), (0, vA x0), (1, vA x1), (2, vI x2), (3, vA x3), (4, vI x4), (5, vI x5)] [] (f_X5_turnRow_b14 x0 x1 x2 x3 x4 x5 k14 x6) := by
  refine sn_iload (y := m_X5_turnRow) (pc := 14) dX5_turnRow_14 rfl ?_
  refine sn_iload (y := m_X5_turnRow) (pc := 16) dX5_turnRow_16 rfl ?_
  refine sn_icmp_ge (y := m_X5_turnRow) (pc := 18) (tgt := 43) dX5_turnRow_18 (by decide) (fun _ => ?_) (fun _ => ?_)
  · refine sn_aload_n (y := m_X5_turnRow) (pc := 43) dX5_turnRow_43 rfl ?_
    refine sn_aload_n (y := m_X5_turnRow) (pc := 44) dX5_turnRow_44 rfl ?_
    refine sn_iload (y := m_X5_turnRow) (pc := 45) dX5_turnRow_45 rfl ?_
    refine sn_invV (y := m_X5_turnRow) (pc := 47) ca_5 (av := [vA x3, vI x4]) (o := x0) (st := []) dX5_turnRow_47 lk_X5_61 im_X5_settle se_X5_settle rfl rfl rfl rfl ⟨by decide, by decide⟩ (c_X5_settle cx.1 x0 x3 x4) (fun _ => ?_)
    exact sn_return rfl dX5_turnRow_50
  refine sn_aload_n (y := m_X5_turnRow) (pc := 21) dX5_turnRow_21 rfl ?_
  refine sn_iload (y := m_X5_turnRow) (pc := 22) dX5_turnRow_22 rfl ?_
  refine sn_iload_n (y := m_X5_turnRow) (pc := 24) dX5_turnRow_24 rfl ?_
  refine sn_imul (y := m_X5_turnRow) (pc := 25) dX5_turnRow_25 ?_
  refine sn_aload_n (y := m_X5_turnRow) (pc := 26) dX5_turnRow_26 rfl ?_
  refine sn_iload (y := m_X5_turnRow) (pc := 27) dX5_turnRow_27 rfl ?_
  refine sn_invS (y := m_X5_turnRow) (pc := 29) (av := [vA x1, vI x6]) (st := [vI (x6 * x2), vA x0]) dX5_turnRow_29 lk_X5_35 sw_X6_at rfl rfl rfl ⟨by decide, by decide⟩ (c_X6_at cx.1 x1 x6) (fun r2 => ?_)
  refine sn_iload (y := m_X5_turnRow) (pc := 32) dX5_turnRow_32 rfl ?_
  refine sn_invV (y := m_X5_turnRow) (pc := 34) ca_5 (av := [vI (x6 * x2), vJ r2, vI x4]) (o := x0) (st := []) dX5_turnRow_34 lk_X5_57 im_X5_collect se_X5_collect rfl rfl rfl rfl ⟨by decide, by decide⟩ (c_X5_collect cx.1 x0 (x6 * x2) r2 x4) (fun _ => ?_)
  refine sn_iinc (y := m_X5_turnRow) (pc := 37) (v := x6 + 1) dX5_turnRow_37 rfl (by rfl) rfl ?_
  refine sn_goto (y := m_X5_turnRow) (pc := 40) (tgt := 14) dX5_turnRow_40 (by decide) ?_
  exact sn_sub rfl (hk14 (x6 + 1))
set_option maxRecDepth 100000 in
theorem s_X5_turnRow_l14 {cx : CX} (x0 : (Option Nat)) (x1 : (Option Nat)) (x2 : Int32) (x3 : (Option Nat)) (x4 : Int32) (x5 : Int32) (x6 : Int32) : Sn cx m_X5_turnRow eV 14 [(6, vI x6), (0, vA x0), (1, vA x1), (2, vI x2), (3, vA x3), (4, vI x4), (5, vI x5)] [] (f_X5_turnRow_l14 x0 x1 x2 x3 x4 x5 x6) :=
  sn_lq1 (L := fun x6 => [(6, vI x6), (0, vA x0), (1, vA x1), (2, vI x2), (3, vA x3), (4, vI x4), (5, vI x5)]) (fun k hk x6 => s_X5_turnRow_b14 x0 x1 x2 x3 x4 x5 hk x6) fuel x6
def f_X5_turnRow (p0 : (Option Nat)) (p1 : (Option Nat)) (p2 : Int32) (p3 : (Option Nat)) (p4 : Int32) : Mo Unit :=
  mBd (f_X5_lengthOf p4) (fun r1 => mBd (mCk 5 p0 (f_X5_clear p0)) (fun _ => f_X5_turnRow_l14 p0 p1 p2 p3 p4 r1 (0 : Int32)))
set_option maxRecDepth 100000 in
theorem s_X5_turnRow {cx : CX} (p0 : (Option Nat)) (p1 : (Option Nat)) (p2 : Int32) (p3 : (Option Nat)) (p4 : Int32) : Sn cx m_X5_turnRow eV 0 [(0, vA p0), (1, vA p1), (2, vI p2), (3, vA p3), (4, vI p4)] [] (f_X5_turnRow p0 p1 p2 p3 p4) := by
  refine sn_iload (y := m_X5_turnRow) (pc := 0) dX5_turnRow_0 rfl ?_
  refine sn_invS (y := m_X5_turnRow) (pc := 2) (av := [vI p4]) (st := []) dX5_turnRow_2 lk_X5_31 sw_X5_lengthOf rfl rfl rfl ⟨by decide, by decide⟩ (c_X5_lengthOf cx.1 p4) (fun r1 => ?_)
  refine sn_istore (y := m_X5_turnRow) (pc := 5) dX5_turnRow_5 rfl ?_
  refine sn_aload_n (y := m_X5_turnRow) (pc := 7) dX5_turnRow_7 rfl ?_
  refine sn_invV (y := m_X5_turnRow) (pc := 8) ca_5 (av := []) (o := p0) (st := []) dX5_turnRow_8 lk_X5_54 im_X5_clear se_X5_clear rfl rfl rfl rfl ⟨by decide, by decide⟩ (c_X5_clear cx.1 p0) (fun _ => ?_)
  refine sn_iconst (y := m_X5_turnRow) (pc := 11) dX5_turnRow_11 kc_iconst_0 ?_
  refine sn_istore (y := m_X5_turnRow) (pc := 12) dX5_turnRow_12 rfl ?_
  exact sn_sub rfl (s_X5_turnRow_l14 p0 p1 p2 p3 p4 r1 (0 : Int32))
set_option maxRecDepth 100000 in
theorem c_X5_turnRow (g : Gl) (p0 : (Option Nat)) (p1 : (Option Nat)) (p2 : Int32) (p3 : (Option Nat)) (p4 : Int32) : Cn g m_X5_turnRow eV [vA p0, vA p1, vI p2, vA p3, vI p4] (mCk 5 p0 (f_X5_turnRow p0 p1 p2 p3 p4)) := cn_of_sn (by decide +kernel) rfl (fun _ => rfl) rfl (fun _ _ => sn_ck (s_X5_turnRow p0 p1 p2 p3 p4))
/-! X3_readSum -/
def f_X3_readSum_j123 (g_X3_readSum : (Option Nat) → Int32 → Mo Int32) (g_X3_readProduct : (Option Nat) → Int32 → Mo Int32) (g_X3_readAtom : (Option Nat) → Int32 → Mo Int32) (g_X3_readDeeper : (Option Nat) → Int32 → (Option Nat) → Mo Int32) (k36 : Int32 → Mo Int32) (x0 : (Option Nat)) (x1 : Int32) (x2 : (Option Nat)) (x3 : (Option Nat)) (x4 : Int32) (s0 : (Option Nat)) : Mo Int32 :=
  mBd (mPutZ 3 13 s0 (1 : Int32)) (fun _ => k36 (x4 + 1))
set_option maxRecDepth 100000 in
theorem s_X3_readSum_j123 {cx : CX} {d : Nat} {g_X3_readSum : (Option Nat) → Int32 → Mo Int32} {g_X3_readProduct : (Option Nat) → Int32 → Mo Int32} {g_X3_readAtom : (Option Nat) → Int32 → Mo Int32} {g_X3_readDeeper : (Option Nat) → Int32 → (Option Nat) → Mo Int32} (hg_X3_readSum : ∀ (a0 : (Option Nat)) (a1 : Int32), Cn cx.1 (m_X3_readSum d) eI [vA a0, vI a1] (mCk 3 a0 (g_X3_readSum a0 a1))) (hg_X3_readProduct : ∀ (a0 : (Option Nat)) (a1 : Int32), Cn cx.1 (m_X3_readProduct d) eI [vA a0, vI a1] (mCk 3 a0 (g_X3_readProduct a0 a1))) (hg_X3_readAtom : ∀ (a0 : (Option Nat)) (a1 : Int32), Cn cx.1 (m_X3_readAtom d) eI [vA a0, vI a1] (mCk 3 a0 (g_X3_readAtom a0 a1))) (hg_X3_readDeeper : ∀ (a0 : (Option Nat)) (a1 : Int32) (a2 : (Option Nat)), Cn cx.1 (m_X3_readDeeper d) eI [vA a0, vI a1, vA a2] (mCk 3 a0 (g_X3_readDeeper a0 a1 a2))) {k36 : Int32 → Mo Int32} (x0 : (Option Nat)) (x1 : Int32) (x2 : (Option Nat)) (x3 : (Option Nat)) (x4 : Int32) (s0 : (Option Nat)) (hk36 : ∀ (z4 : Int32), Sn cx (m_X3_readSum (d + 1)) eI 36 [(4, vI z4), (0, vA x0), (1, vI x1), (2, vA x2), (3, vA x3)] [] (k36 z4)) : Sn cx (m_X3_readSum (d + 1)) eI 123 [(0, vA x0), (1, vI x1), (2, vA x2), (3, vA x3), (4, vI x4)] [vA s0] (f_X3_readSum_j123 g_X3_readSum g_X3_readProduct g_X3_readAtom g_X3_readDeeper k36 x0 x1 x2 x3 x4 s0) := by
  refine sn_iconst (y := (m_X3_readSum (d + 1))) (pc := 123) dX3_readSum_123 kc_iconst_1 ?_
  refine sn_goto (y := (m_X3_readSum (d + 1))) (pc := 124) (tgt := 128) dX3_readSum_124 (by decide) ?_
  refine sn_putZ (y := (m_X3_readSum (d + 1))) (pc := 128) ca_3 rfl fk_X3_70 (Or.inl rfl) rfl dX3_readSum_128 ?_
  refine sn_iinc (y := (m_X3_readSum (d + 1))) (pc := 131) (v := x4 + 1) dX3_readSum_131 rfl (by rfl) rfl ?_
  refine sn_goto (y := (m_X3_readSum (d + 1))) (pc := 134) (tgt := 36) dX3_readSum_134 (by decide) ?_
  exact sn_sub rfl (hk36 (x4 + 1))
def f_X3_readSum_j105 (g_X3_readSum : (Option Nat) → Int32 → Mo Int32) (g_X3_readProduct : (Option Nat) → Int32 → Mo Int32) (g_X3_readAtom : (Option Nat) → Int32 → Mo Int32) (g_X3_readDeeper : (Option Nat) → Int32 → (Option Nat) → Mo Int32) (k36 : Int32 → Mo Int32) (x0 : (Option Nat)) (x1 : Int32) (x2 : (Option Nat)) (x3 : (Option Nat)) (x4 : Int32) (s0 : Int64) (s1 : (Option Nat)) (s2 : (Option Nat)) : Mo Int32 :=
  mBd (f_X6_addTimes s2 s1 s0) (fun _ => mBd (mGetI 3 13 x0) (fun r11 => (if ¬ r11 = 0 then f_X3_readSum_j123 g_X3_readSum g_X3_readProduct g_X3_readAtom g_X3_readDeeper k36 x0 x1 x2 x3 x4 x0 else mBd (f_X6_isHuge x2) (fun r12 => (if r12 = 0 then mBd (mPutZ 3 13 x0 (0 : Int32)) (fun _ => k36 (x4 + 1)) else f_X3_readSum_j123 g_X3_readSum g_X3_readProduct g_X3_readAtom g_X3_readDeeper k36 x0 x1 x2 x3 x4 x0)))))
set_option maxRecDepth 100000 in
theorem s_X3_readSum_j105 {cx : CX} {d : Nat} {g_X3_readSum : (Option Nat) → Int32 → Mo Int32} {g_X3_readProduct : (Option Nat) → Int32 → Mo Int32} {g_X3_readAtom : (Option Nat) → Int32 → Mo Int32} {g_X3_readDeeper : (Option Nat) → Int32 → (Option Nat) → Mo Int32} (hg_X3_readSum : ∀ (a0 : (Option Nat)) (a1 : Int32), Cn cx.1 (m_X3_readSum d) eI [vA a0, vI a1] (mCk 3 a0 (g_X3_readSum a0 a1))) (hg_X3_readProduct : ∀ (a0 : (Option Nat)) (a1 : Int32), Cn cx.1 (m_X3_readProduct d) eI [vA a0, vI a1] (mCk 3 a0 (g_X3_readProduct a0 a1))) (hg_X3_readAtom : ∀ (a0 : (Option Nat)) (a1 : Int32), Cn cx.1 (m_X3_readAtom d) eI [vA a0, vI a1] (mCk 3 a0 (g_X3_readAtom a0 a1))) (hg_X3_readDeeper : ∀ (a0 : (Option Nat)) (a1 : Int32) (a2 : (Option Nat)), Cn cx.1 (m_X3_readDeeper d) eI [vA a0, vI a1, vA a2] (mCk 3 a0 (g_X3_readDeeper a0 a1 a2))) {k36 : Int32 → Mo Int32} (x0 : (Option Nat)) (x1 : Int32) (x2 : (Option Nat)) (x3 : (Option Nat)) (x4 : Int32) (s0 : Int64) (s1 : (Option Nat)) (s2 : (Option Nat)) (hk36 : ∀ (z4 : Int32), Sn cx (m_X3_readSum (d + 1)) eI 36 [(4, vI z4), (0, vA x0), (1, vI x1), (2, vA x2), (3, vA x3)] [] (k36 z4)) : Sn cx (m_X3_readSum (d + 1)) eI 105 [(0, vA x0), (1, vI x1), (2, vA x2), (3, vA x3), (4, vI x4)] [vJ s0, vA s1, vA s2] (f_X3_readSum_j105 g_X3_readSum g_X3_readProduct g_X3_readAtom g_X3_readDeeper k36 x0 x1 x2 x3 x4 s0 s1 s2) := by
  refine sn_invS (y := (m_X3_readSum (d + 1))) (pc := 105) (av := [vA s2, vA s1, vJ s0]) (st := []) dX3_readSum_105 lk_X3_231 sw_X6_addTimes rfl rfl rfl ⟨by show 2 + 1 ≤ 5 + (d + 1); omega, by show 8 + (5 + 11) + 30 ≤ 108 + 60 * (d + 1); omega⟩ (c_X6_addTimes cx.1 s2 s1 s0) (fun _ => ?_)
  refine sn_aload_n (y := (m_X3_readSum (d + 1))) (pc := 108) dX3_readSum_108 rfl ?_
  refine sn_aload_n (y := (m_X3_readSum (d + 1))) (pc := 109) dX3_readSum_109 rfl ?_
  refine sn_getI (y := (m_X3_readSum (d + 1))) (pc := 110) ca_3 rfl fk_X3_70 (fun _ _ _ => rfl) dX3_readSum_110 (fun r11 => ?_)
  refine sn_if_ne (y := (m_X3_readSum (d + 1))) (pc := 113) (tgt := 123) dX3_readSum_113 (by decide) (fun _ => ?_) (fun _ => ?_)
  · exact sn_sub rfl (s_X3_readSum_j123 hg_X3_readSum hg_X3_readProduct hg_X3_readAtom hg_X3_readDeeper x0 x1 x2 x3 x4 x0 hk36)
  refine sn_aload_n (y := (m_X3_readSum (d + 1))) (pc := 116) dX3_readSum_116 rfl ?_
  refine sn_invS (y := (m_X3_readSum (d + 1))) (pc := 117) (av := [vA x2]) (st := [vA x0]) dX3_readSum_117 lk_X3_235 sw_X6_isHuge rfl rfl rfl ⟨by show 2 + 1 ≤ 5 + (d + 1); omega, by show 8 + (2 + 11) + 30 ≤ 108 + 60 * (d + 1); omega⟩ (c_X6_isHuge cx.1 x2) (fun r12 => ?_)
  refine sn_if_eq (y := (m_X3_readSum (d + 1))) (pc := 120) (tgt := 127) dX3_readSum_120 (by decide) (fun _ => ?_) (fun _ => ?_)
  · refine sn_iconst (y := (m_X3_readSum (d + 1))) (pc := 127) dX3_readSum_127 kc_iconst_0 ?_
    refine sn_putZ (y := (m_X3_readSum (d + 1))) (pc := 128) ca_3 rfl fk_X3_70 (Or.inl rfl) rfl dX3_readSum_128 ?_
    refine sn_iinc (y := (m_X3_readSum (d + 1))) (pc := 131) (v := x4 + 1) dX3_readSum_131 rfl (by rfl) rfl ?_
    refine sn_goto (y := (m_X3_readSum (d + 1))) (pc := 134) (tgt := 36) dX3_readSum_134 (by decide) ?_
    exact sn_sub rfl (hk36 (x4 + 1))
  exact sn_sub rfl (s_X3_readSum_j123 hg_X3_readSum hg_X3_readProduct hg_X3_readAtom hg_X3_readDeeper x0 x1 x2 x3 x4 x0 hk36)
def f_X3_readSum_j74 (g_X3_readSum : (Option Nat) → Int32 → Mo Int32) (g_X3_readProduct : (Option Nat) → Int32 → Mo Int32) (g_X3_readAtom : (Option Nat) → Int32 → Mo Int32) (g_X3_readDeeper : (Option Nat) → Int32 → (Option Nat) → Mo Int32) (k36 : Int32 → Mo Int32) (x0 : (Option Nat)) (x1 : Int32) (x2 : (Option Nat)) (x3 : (Option Nat)) (x4 : Int32) (x5 : Int32) : Mo Int32 :=
  mBd (mGetA 3 0 x0) (fun r9 => mBd (mCk 7 r9 (f_X9_step r9)) (fun _ => mBd (mCk 3 x0 (g_X3_readProduct x0 x1)) (fun r10 => (if ¬ r10 = 0 then (if x5 = 0 then f_X3_readSum_j105 g_X3_readSum g_X3_readProduct g_X3_readAtom g_X3_readDeeper k36 x0 x1 x2 x3 x4 (1 : Int64) x3 x2 else f_X3_readSum_j105 g_X3_readSum g_X3_readProduct g_X3_readAtom g_X3_readDeeper k36 x0 x1 x2 x3 x4 (-1 : Int64) x3 x2) else mRt (0 : Int32)))))
set_option maxRecDepth 100000 in
theorem s_X3_readSum_j74 {cx : CX} {d : Nat} {g_X3_readSum : (Option Nat) → Int32 → Mo Int32} {g_X3_readProduct : (Option Nat) → Int32 → Mo Int32} {g_X3_readAtom : (Option Nat) → Int32 → Mo Int32} {g_X3_readDeeper : (Option Nat) → Int32 → (Option Nat) → Mo Int32} (hg_X3_readSum : ∀ (a0 : (Option Nat)) (a1 : Int32), Cn cx.1 (m_X3_readSum d) eI [vA a0, vI a1] (mCk 3 a0 (g_X3_readSum a0 a1))) (hg_X3_readProduct : ∀ (a0 : (Option Nat)) (a1 : Int32), Cn cx.1 (m_X3_readProduct d) eI [vA a0, vI a1] (mCk 3 a0 (g_X3_readProduct a0 a1))) (hg_X3_readAtom : ∀ (a0 : (Option Nat)) (a1 : Int32), Cn cx.1 (m_X3_readAtom d) eI [vA a0, vI a1] (mCk 3 a0 (g_X3_readAtom a0 a1))) (hg_X3_readDeeper : ∀ (a0 : (Option Nat)) (a1 : Int32) (a2 : (Option Nat)), Cn cx.1 (m_X3_readDeeper d) eI [vA a0, vI a1, vA a2] (mCk 3 a0 (g_X3_readDeeper a0 a1 a2))) {k36 : Int32 → Mo Int32} (x0 : (Option Nat)) (x1 : Int32) (x2 : (Option Nat)) (x3 : (Option Nat)) (x4 : Int32) (x5 : Int32) (hk36 : ∀ (z4 : Int32), Sn cx (m_X3_readSum (d + 1)) eI 36 [(4, vI z4), (0, vA x0), (1, vI x1), (2, vA x2), (3, vA x3)] [] (k36 z4)) : Sn cx (m_X3_readSum (d + 1)) eI 74 [(0, vA x0), (1, vI x1), (2, vA x2), (3, vA x3), (4, vI x4), (5, vI x5)] [] (f_X3_readSum_j74 g_X3_readSum g_X3_readProduct g_X3_readAtom g_X3_readDeeper k36 x0 x1 x2 x3 x4 x5) := by
  refine sn_aload_n (y := (m_X3_readSum (d + 1))) (pc := 74) dX3_readSum_74 rfl ?_
  refine sn_getA (y := (m_X3_readSum (d + 1))) (pc := 75) ca_3 rfl fk_X3_12 (fun _ _ _ => rfl) dX3_readSum_75 (fun r9 => ?_)
  refine sn_invV (y := (m_X3_readSum (d + 1))) (pc := 78) ca_7 (av := []) (o := r9) (st := []) dX3_readSum_78 lk_X3_92 im_X9_step se_X9_step rfl rfl rfl rfl ⟨by show 2 + 1 ≤ 5 + (d + 1); omega, by show 8 + (2 + 11) + 30 ≤ 108 + 60 * (d + 1); omega⟩ (c_X9_step cx.1 r9) (fun _ => ?_)
  refine sn_aload_n (y := (m_X3_readSum (d + 1))) (pc := 81) dX3_readSum_81 rfl ?_
  refine sn_iload_n (y := (m_X3_readSum (d + 1))) (pc := 82) dX3_readSum_82 rfl ?_
  refine sn_invV (y := (m_X3_readSum (d + 1))) (pc := 83) ca_3 (av := [vI x1]) (o := x0) (st := []) dX3_readSum_83 (lk_X3_222 d) im_X3_readProduct se_X3_readProduct rfl rfl rfl rfl ⟨by show 5 + d + 1 ≤ 5 + (d + 1); omega, by show 8 + (5 + 11) + (108 + 60 * d) ≤ 108 + 60 * (d + 1); omega⟩ (hg_X3_readProduct x0 x1) (fun r10 => ?_)
  refine sn_if_ne (y := (m_X3_readSum (d + 1))) (pc := 86) (tgt := 91) dX3_readSum_86 (by decide) (fun _ => ?_) (fun _ => ?_)
  · refine sn_aload_n (y := (m_X3_readSum (d + 1))) (pc := 91) dX3_readSum_91 rfl ?_
    refine sn_aload_n (y := (m_X3_readSum (d + 1))) (pc := 92) dX3_readSum_92 rfl ?_
    refine sn_iload (y := (m_X3_readSum (d + 1))) (pc := 93) dX3_readSum_93 rfl ?_
    refine sn_if_eq (y := (m_X3_readSum (d + 1))) (pc := 95) (tgt := 104) dX3_readSum_95 (by decide) (fun _ => ?_) (fun _ => ?_)
    · refine sn_lconst (y := (m_X3_readSum (d + 1))) (pc := 104) dX3_readSum_104 kc_lconst_1 ?_
      exact sn_sub rfl (s_X3_readSum_j105 hg_X3_readSum hg_X3_readProduct hg_X3_readAtom hg_X3_readDeeper x0 x1 x2 x3 x4 (1 : Int64) x3 x2 hk36)
    refine sn_ldcJ (y := (m_X3_readSum (d + 1))) (pc := 98) kj_X3_229 dX3_readSum_98 ?_
    refine sn_goto (y := (m_X3_readSum (d + 1))) (pc := 101) (tgt := 105) dX3_readSum_101 (by decide) ?_
    exact sn_sub rfl (s_X3_readSum_j105 hg_X3_readSum hg_X3_readProduct hg_X3_readAtom hg_X3_readDeeper x0 x1 x2 x3 x4 (-1 : Int64) x3 x2 hk36)
  refine sn_iconst (y := (m_X3_readSum (d + 1))) (pc := 89) dX3_readSum_89 kc_iconst_0 ?_
  exact sn_zreturnC (by decide) rfl dX3_readSum_90
def f_X3_readSum_b36 (g_X3_readSum : (Option Nat) → Int32 → Mo Int32) (g_X3_readProduct : (Option Nat) → Int32 → Mo Int32) (g_X3_readAtom : (Option Nat) → Int32 → Mo Int32) (g_X3_readDeeper : (Option Nat) → Int32 → (Option Nat) → Mo Int32) (x0 : (Option Nat)) (x1 : Int32) (x2 : (Option Nat)) (x3 : (Option Nat)) (k36 : Int32 → Mo Int32) (x4 : Int32) : Mo Int32 :=
  (if x4 > (900 : Int32) then mBd (mCk 3 x0 (f_X3_blame x0 (1 : Int32))) (fun r6 => mRq (r6 = 0 ∨ r6 = 1) (mRt r6)) else mBd (mGetA 3 0 x0) (fun r7 => mBd (mCk 7 r7 (f_X9_atSign r7 (45 : Int32))) (fun r8 => (if ¬ r8 = 0 then f_X3_readSum_j74 g_X3_readSum g_X3_readProduct g_X3_readAtom g_X3_readDeeper k36 x0 x1 x2 x3 x4 r8 else mBd (mGetA 3 0 x0) (fun r13 => mBd (mCk 7 r13 (f_X9_atSign r13 (43 : Int32))) (fun r14 => (if ¬ r14 = 0 then f_X3_readSum_j74 g_X3_readSum g_X3_readProduct g_X3_readAtom g_X3_readDeeper k36 x0 x1 x2 x3 x4 r8 else mRt (1 : Int32))))))))
def f_X3_readSum_l36 (g_X3_readSum : (Option Nat) → Int32 → Mo Int32) (g_X3_readProduct : (Option Nat) → Int32 → Mo Int32) (g_X3_readAtom : (Option Nat) → Int32 → Mo Int32) (g_X3_readDeeper : (Option Nat) → Int32 → (Option Nat) → Mo Int32) (x0 : (Option Nat)) (x1 : Int32) (x2 : (Option Nat)) (x3 : (Option Nat)) : Int32 → Mo Int32 := lq1 (f_X3_readSum_b36 g_X3_readSum g_X3_readProduct g_X3_readAtom g_X3_readDeeper x0 x1 x2 x3) fuel
set_option maxRecDepth 100000 in
theorem s_X3_readSum_b36 {cx : CX} {d : Nat} {g_X3_readSum : (Option Nat) → Int32 → Mo Int32} {g_X3_readProduct : (Option Nat) → Int32 → Mo Int32} {g_X3_readAtom : (Option Nat) → Int32 → Mo Int32} {g_X3_readDeeper : (Option Nat) → Int32 → (Option Nat) → Mo Int32} (hg_X3_readSum : ∀ (a0 : (Option Nat)) (a1 : Int32), Cn cx.1 (m_X3_readSum d) eI [vA a0, vI a1] (mCk 3 a0 (g_X3_readSum a0 a1))) (hg_X3_readProduct : ∀ (a0 : (Option Nat)) (a1 : Int32), Cn cx.1 (m_X3_readProduct d) eI [vA a0, vI a1] (mCk 3 a0 (g_X3_readProduct a0 a1))) (hg_X3_readAtom : ∀ (a0 : (Option Nat)) (a1 : Int32), Cn cx.1 (m_X3_readAtom d) eI [vA a0, vI a1] (mCk 3 a0 (g_X3_readAtom a0 a1))) (hg_X3_readDeeper : ∀ (a0 : (Option Nat)) (a1 : Int32) (a2 : (Option Nat)), Cn cx.1 (m_X3_readDeeper d) eI [vA a0, vI a1, vA a2] (mCk 3 a0 (g_X3_readDeeper a0 a1 a2))) (x0 : (Option Nat)) (x1 : Int32) (x2 : (Option Nat)) (x3 : (Option Nat)) {k36 : Int32 → Mo Int32} (hk36 : ∀ (z4 : Int32), Sn cx (m_X3_readSum (d + 1)) eI 36 [(4, vI z4), (0, vA x0), (1, vI x1), (2, vA x2), (3, vA x3)] [] (k36 z4)) (x4 : Int32) : Sn cx (m_X3_readSum (d + 1)) eI 36 [(4, vI x4), (0, vA x0), (1, vI x1), (2, vA x2), (3, vA x3)] [] (f_X3_readSum_b36 g_X3_readSum g_X3_readProduct g_X3_readAtom g_X3_readDeeper x0 x1 x2 x3 k36 x4) := by
  refine sn_iload (y := (m_X3_readSum (d + 1))) (pc := 36) dX3_readSum_36 rfl ?_
  refine sn_sipush (y := (m_X3_readSum (d + 1))) (pc := 38) dX3_readSum_38 kc_sipush_900 ?_
  refine sn_icmp_gt (y := (m_X3_readSum (d + 1))) (pc := 41) (tgt := 137) dX3_readSum_41 (by decide) (fun _ => ?_) (fun _ => ?_)
  · refine sn_aload_n (y := (m_X3_readSum (d + 1))) (pc := 137) dX3_readSum_137 rfl ?_
    refine sn_iconst (y := (m_X3_readSum (d + 1))) (pc := 138) dX3_readSum_138 kc_iconst_1 ?_
    refine sn_invV (y := (m_X3_readSum (d + 1))) (pc := 139) ca_3 (av := [vI (1 : Int32)]) (o := x0) (st := []) dX3_readSum_139 lk_X3_111 im_X3_blame se_X3_blame rfl rfl rfl rfl ⟨by show 2 + 1 ≤ 5 + (d + 1); omega, by show 8 + (2 + 11) + 30 ≤ 108 + 60 * (d + 1); omega⟩ (c_X3_blame cx.1 x0 (1 : Int32)) (fun r6 => ?_)
    exact sn_zreturn rfl dX3_readSum_142
  refine sn_aload_n (y := (m_X3_readSum (d + 1))) (pc := 44) dX3_readSum_44 rfl ?_
  refine sn_getA (y := (m_X3_readSum (d + 1))) (pc := 45) ca_3 rfl fk_X3_12 (fun _ _ _ => rfl) dX3_readSum_45 (fun r7 => ?_)
  refine sn_bipush (y := (m_X3_readSum (d + 1))) (pc := 48) dX3_readSum_48 kc_bipush_45 ?_
  refine sn_invV (y := (m_X3_readSum (d + 1))) (pc := 50) ca_7 (av := [vI (45 : Int32)]) (o := r7) (st := []) dX3_readSum_50 lk_X3_114 im_X9_atSign se_X9_atSign rfl rfl rfl rfl ⟨by show 2 + 1 ≤ 5 + (d + 1); omega, by show 8 + (2 + 11) + 30 ≤ 108 + 60 * (d + 1); omega⟩ (c_X9_atSign cx.1 r7 (45 : Int32)) (fun r8 => ?_)
  refine sn_istore (y := (m_X3_readSum (d + 1))) (pc := 53) dX3_readSum_53 rfl ?_
  refine sn_iload (y := (m_X3_readSum (d + 1))) (pc := 55) dX3_readSum_55 rfl ?_
  refine sn_if_ne (y := (m_X3_readSum (d + 1))) (pc := 57) (tgt := 74) dX3_readSum_57 (by decide) (fun _ => ?_) (fun _ => ?_)
  · exact sn_sub rfl (s_X3_readSum_j74 hg_X3_readSum hg_X3_readProduct hg_X3_readAtom hg_X3_readDeeper x0 x1 x2 x3 x4 r8 hk36)
  refine sn_aload_n (y := (m_X3_readSum (d + 1))) (pc := 60) dX3_readSum_60 rfl ?_
  refine sn_getA (y := (m_X3_readSum (d + 1))) (pc := 61) ca_3 rfl fk_X3_12 (fun _ _ _ => rfl) dX3_readSum_61 (fun r13 => ?_)
  refine sn_bipush (y := (m_X3_readSum (d + 1))) (pc := 64) dX3_readSum_64 kc_bipush_43 ?_
  refine sn_invV (y := (m_X3_readSum (d + 1))) (pc := 66) ca_7 (av := [vI (43 : Int32)]) (o := r13) (st := []) dX3_readSum_66 lk_X3_114 im_X9_atSign se_X9_atSign rfl rfl rfl rfl ⟨by show 2 + 1 ≤ 5 + (d + 1); omega, by show 8 + (2 + 11) + 30 ≤ 108 + 60 * (d + 1); omega⟩ (c_X9_atSign cx.1 r13 (43 : Int32)) (fun r14 => ?_)
  refine sn_if_ne (y := (m_X3_readSum (d + 1))) (pc := 69) (tgt := 74) dX3_readSum_69 (by decide) (fun _ => ?_) (fun _ => ?_)
  · exact sn_sub rfl (s_X3_readSum_j74 hg_X3_readSum hg_X3_readProduct hg_X3_readAtom hg_X3_readDeeper x0 x1 x2 x3 x4 r8 hk36)
  refine sn_iconst (y := (m_X3_readSum (d + 1))) (pc := 72) dX3_readSum_72 kc_iconst_1 ?_
  exact sn_zreturnC (by decide) rfl dX3_readSum_73
set_option maxRecDepth 100000 in
theorem s_X3_readSum_l36 {cx : CX} {d : Nat} {g_X3_readSum : (Option Nat) → Int32 → Mo Int32} {g_X3_readProduct : (Option Nat) → Int32 → Mo Int32} {g_X3_readAtom : (Option Nat) → Int32 → Mo Int32} {g_X3_readDeeper : (Option Nat) → Int32 → (Option Nat) → Mo Int32} (hg_X3_readSum : ∀ (a0 : (Option Nat)) (a1 : Int32), Cn cx.1 (m_X3_readSum d) eI [vA a0, vI a1] (mCk 3 a0 (g_X3_readSum a0 a1))) (hg_X3_readProduct : ∀ (a0 : (Option Nat)) (a1 : Int32), Cn cx.1 (m_X3_readProduct d) eI [vA a0, vI a1] (mCk 3 a0 (g_X3_readProduct a0 a1))) (hg_X3_readAtom : ∀ (a0 : (Option Nat)) (a1 : Int32), Cn cx.1 (m_X3_readAtom d) eI [vA a0, vI a1] (mCk 3 a0 (g_X3_readAtom a0 a1))) (hg_X3_readDeeper : ∀ (a0 : (Option Nat)) (a1 : Int32) (a2 : (Option Nat)), Cn cx.1 (m_X3_readDeeper d) eI [vA a0, vI a1, vA a2] (mCk 3 a0 (g_X3_readDeeper a0 a1 a2))) (x0 : (Option Nat)) (x1 : Int32) (x2 : (Option Nat)) (x3 : (Option Nat)) (x4 : Int32) : Sn cx (m_X3_readSum (d + 1)) eI 36 [(4, vI x4), (0, vA x0), (1, vI x1), (2, vA x2), (3, vA x3)] [] (f_X3_readSum_l36 g_X3_readSum g_X3_readProduct g_X3_readAtom g_X3_readDeeper x0 x1 x2 x3 x4) :=
  sn_lq1 (L := fun x4 => [(4, vI x4), (0, vA x0), (1, vI x1), (2, vA x2), (3, vA x3)]) (fun k hk x4 => s_X3_readSum_b36 hg_X3_readSum hg_X3_readProduct hg_X3_readAtom hg_X3_readDeeper x0 x1 x2 x3 hk x4) fuel x4
def fb_X3_readSum (g_X3_readSum : (Option Nat) → Int32 → Mo Int32) (g_X3_readProduct : (Option Nat) → Int32 → Mo Int32) (g_X3_readAtom : (Option Nat) → Int32 → Mo Int32) (g_X3_readDeeper : (Option Nat) → Int32 → (Option Nat) → Mo Int32) (p0 : (Option Nat)) (p1 : Int32) : Mo Int32 :=
  mBd (mGetA 3 2 p0) (fun r1 => mBd (f_X6_rowAt r1 p1) (fun r2 => mBd (mGetA 3 3 p0) (fun r3 => mBd (f_X6_rowAt r3 p1) (fun r4 => mBd (mCk 3 p0 (g_X3_readProduct p0 p1)) (fun r5 => (if ¬ r5 = 0 then mBd (f_X6_copy r4 r2) (fun _ => f_X3_readSum_l36 g_X3_readSum g_X3_readProduct g_X3_readAtom g_X3_readDeeper p0 p1 r2 r4 (0 : Int32)) else mRt (0 : Int32)))))))
set_option maxRecDepth 100000 in
theorem s_X3_readSum {cx : CX} {d : Nat} {g_X3_readSum : (Option Nat) → Int32 → Mo Int32} {g_X3_readProduct : (Option Nat) → Int32 → Mo Int32} {g_X3_readAtom : (Option Nat) → Int32 → Mo Int32} {g_X3_readDeeper : (Option Nat) → Int32 → (Option Nat) → Mo Int32} (hg_X3_readSum : ∀ (a0 : (Option Nat)) (a1 : Int32), Cn cx.1 (m_X3_readSum d) eI [vA a0, vI a1] (mCk 3 a0 (g_X3_readSum a0 a1))) (hg_X3_readProduct : ∀ (a0 : (Option Nat)) (a1 : Int32), Cn cx.1 (m_X3_readProduct d) eI [vA a0, vI a1] (mCk 3 a0 (g_X3_readProduct a0 a1))) (hg_X3_readAtom : ∀ (a0 : (Option Nat)) (a1 : Int32), Cn cx.1 (m_X3_readAtom d) eI [vA a0, vI a1] (mCk 3 a0 (g_X3_readAtom a0 a1))) (hg_X3_readDeeper : ∀ (a0 : (Option Nat)) (a1 : Int32) (a2 : (Option Nat)), Cn cx.1 (m_X3_readDeeper d) eI [vA a0, vI a1, vA a2] (mCk 3 a0 (g_X3_readDeeper a0 a1 a2))) (p0 : (Option Nat)) (p1 : Int32) : Sn cx (m_X3_readSum (d + 1)) eI 0 [(0, vA p0), (1, vI p1)] [] (fb_X3_readSum g_X3_readSum g_X3_readProduct g_X3_readAtom g_X3_readDeeper p0 p1) := by
  refine sn_aload_n (y := (m_X3_readSum (d + 1))) (pc := 0) dX3_readSum_0 rfl ?_
  refine sn_getA (y := (m_X3_readSum (d + 1))) (pc := 1) ca_3 rfl fk_X3_27 (fun _ _ _ => rfl) dX3_readSum_1 (fun r1 => ?_)
  refine sn_iload_n (y := (m_X3_readSum (d + 1))) (pc := 4) dX3_readSum_4 rfl ?_
  refine sn_invS (y := (m_X3_readSum (d + 1))) (pc := 5) (av := [vA r1, vI p1]) (st := []) dX3_readSum_5 lk_X3_212 sw_X6_rowAt rfl rfl rfl ⟨by show 2 + 1 ≤ 5 + (d + 1); omega, by show 8 + (2 + 11) + 30 ≤ 108 + 60 * (d + 1); omega⟩ (c_X6_rowAt cx.1 r1 p1) (fun r2 => ?_)
  refine sn_astore_n (y := (m_X3_readSum (d + 1))) (pc := 8) dX3_readSum_8 rfl ?_
  refine sn_aload_n (y := (m_X3_readSum (d + 1))) (pc := 9) dX3_readSum_9 rfl ?_
  refine sn_getA (y := (m_X3_readSum (d + 1))) (pc := 10) ca_3 rfl fk_X3_30 (fun _ _ _ => rfl) dX3_readSum_10 (fun r3 => ?_)
  refine sn_iload_n (y := (m_X3_readSum (d + 1))) (pc := 13) dX3_readSum_13 rfl ?_
  refine sn_invS (y := (m_X3_readSum (d + 1))) (pc := 14) (av := [vA r3, vI p1]) (st := []) dX3_readSum_14 lk_X3_212 sw_X6_rowAt rfl rfl rfl ⟨by show 2 + 1 ≤ 5 + (d + 1); omega, by show 8 + (2 + 11) + 30 ≤ 108 + 60 * (d + 1); omega⟩ (c_X6_rowAt cx.1 r3 p1) (fun r4 => ?_)
  refine sn_astore_n (y := (m_X3_readSum (d + 1))) (pc := 17) dX3_readSum_17 rfl ?_
  refine sn_aload_n (y := (m_X3_readSum (d + 1))) (pc := 18) dX3_readSum_18 rfl ?_
  refine sn_iload_n (y := (m_X3_readSum (d + 1))) (pc := 19) dX3_readSum_19 rfl ?_
  refine sn_invV (y := (m_X3_readSum (d + 1))) (pc := 20) ca_3 (av := [vI p1]) (o := p0) (st := []) dX3_readSum_20 (lk_X3_222 d) im_X3_readProduct se_X3_readProduct rfl rfl rfl rfl ⟨by show 5 + d + 1 ≤ 5 + (d + 1); omega, by show 8 + (5 + 11) + (108 + 60 * d) ≤ 108 + 60 * (d + 1); omega⟩ (hg_X3_readProduct p0 p1) (fun r5 => ?_)
  refine sn_if_ne (y := (m_X3_readSum (d + 1))) (pc := 23) (tgt := 28) dX3_readSum_23 (by decide) (fun _ => ?_) (fun _ => ?_)
  · refine sn_aload_n (y := (m_X3_readSum (d + 1))) (pc := 28) dX3_readSum_28 rfl ?_
    refine sn_aload_n (y := (m_X3_readSum (d + 1))) (pc := 29) dX3_readSum_29 rfl ?_
    refine sn_invS (y := (m_X3_readSum (d + 1))) (pc := 30) (av := [vA r4, vA r2]) (st := []) dX3_readSum_30 lk_X3_225 sw_X6_copy rfl rfl rfl ⟨by show 2 + 1 ≤ 5 + (d + 1); omega, by show 8 + (3 + 11) + 30 ≤ 108 + 60 * (d + 1); omega⟩ (c_X6_copy cx.1 r4 r2) (fun _ => ?_)
    refine sn_iconst (y := (m_X3_readSum (d + 1))) (pc := 33) dX3_readSum_33 kc_iconst_0 ?_
    refine sn_istore (y := (m_X3_readSum (d + 1))) (pc := 34) dX3_readSum_34 rfl ?_
    exact sn_sub rfl (s_X3_readSum_l36 hg_X3_readSum hg_X3_readProduct hg_X3_readAtom hg_X3_readDeeper p0 p1 r2 r4 (0 : Int32))
  refine sn_iconst (y := (m_X3_readSum (d + 1))) (pc := 26) dX3_readSum_26 kc_iconst_0 ?_
  exact sn_zreturnC (by decide) rfl dX3_readSum_27
/-! X3_readProduct -/
def f_X3_readProduct_j107 (g_X3_readSum : (Option Nat) → Int32 → Mo Int32) (g_X3_readProduct : (Option Nat) → Int32 → Mo Int32) (g_X3_readAtom : (Option Nat) → Int32 → Mo Int32) (g_X3_readDeeper : (Option Nat) → Int32 → (Option Nat) → Mo Int32) (k36 : Int32 → Mo Int32) (x0 : (Option Nat)) (x1 : Int32) (x2 : (Option Nat)) (x3 : (Option Nat)) (x4 : Int32) (s0 : (Option Nat)) : Mo Int32 :=
  mBd (mPutZ 3 13 s0 (1 : Int32)) (fun _ => k36 (x4 + 1))
set_option maxRecDepth 100000 in
theorem s_X3_readProduct_j107 {cx : CX} {d : Nat} {g_X3_readSum : (Option Nat) → Int32 → Mo Int32} {g_X3_readProduct : (Option Nat) → Int32 → Mo Int32} {g_X3_readAtom : (Option Nat) → Int32 → Mo Int32} {g_X3_readDeeper : (Option Nat) → Int32 → (Option Nat) → Mo Int32} (hg_X3_readSum : ∀ (a0 : (Option Nat)) (a1 : Int32), Cn cx.1 (m_X3_readSum d) eI [vA a0, vI a1] (mCk 3 a0 (g_X3_readSum a0 a1))) (hg_X3_readProduct : ∀ (a0 : (Option Nat)) (a1 : Int32), Cn cx.1 (m_X3_readProduct d) eI [vA a0, vI a1] (mCk 3 a0 (g_X3_readProduct a0 a1))) (hg_X3_readAtom : ∀ (a0 : (Option Nat)) (a1 : Int32), Cn cx.1 (m_X3_readAtom d) eI [vA a0, vI a1] (mCk 3 a0 (g_X3_readAtom a0 a1))) (hg_X3_readDeeper : ∀ (a0 : (Option Nat)) (a1 : Int32) (a2 : (Option Nat)), Cn cx.1 (m_X3_readDeeper d) eI [vA a0, vI a1, vA a2] (mCk 3 a0 (g_X3_readDeeper a0 a1 a2))) {k36 : Int32 → Mo Int32} (x0 : (Option Nat)) (x1 : Int32) (x2 : (Option Nat)) (x3 : (Option Nat)) (x4 : Int32) (s0 : (Option Nat)) (hk36 : ∀ (z4 : Int32), Sn cx (m_X3_readProduct (d + 1)) eI 36 [(4, vI z4), (0, vA x0), (1, vI x1), (2, vA x2), (3, vA x3)] [] (k36 z4)) : Sn cx (m_X3_readProduct (d + 1)) eI 107 [(0, vA x0), (1, vI x1), (2, vA x2), (3, vA x3), (4, vI x4)] [vA s0] (f_X3_readProduct_j107 g_X3_readSum g_X3_readProduct g_X3_readAtom g_X3_readDeeper k36 x0 x1 x2 x3 x4 s0) := by
  refine sn_iconst (y := (m_X3_readProduct (d + 1))) (pc := 107) dX3_readProduct_107 kc_iconst_1 ?_
  refine sn_goto (y := (m_X3_readProduct (d + 1))) (pc := 108) (tgt := 112) dX3_readProduct_108 (by decide) ?_
  refine sn_putZ (y := (m_X3_readProduct (d + 1))) (pc := 112) ca_3 rfl fk_X3_70 (Or.inl rfl) rfl dX3_readProduct_112 ?_
  refine sn_iinc (y := (m_X3_readProduct (d + 1))) (pc := 115) (v := x4 + 1) dX3_readProduct_115 rfl (by rfl) rfl ?_
  refine sn_goto (y := (m_X3_readProduct (d + 1))) (pc := 118) (tgt := 36) dX3_readProduct_118 (by decide) ?_
  exact sn_sub rfl (hk36 (x4 + 1))
def f_X3_readProduct_b36 (g_X3_readSum : (Option Nat) → Int32 → Mo Int32) (g_X3_readProduct : (Option Nat) → Int32 → Mo Int32) (g_X3_readAtom : (Option Nat) → Int32 → Mo Int32) (g_X3_readDeeper : (Option Nat) → Int32 → (Option Nat) → Mo Int32) (x0 : (Option Nat)) (x1 : Int32) (x2 : (Option Nat)) (x3 : (Option Nat)) (k36 : Int32 → Mo Int32) (x4 : Int32) : Mo Int32 :=
  (if x4 > (900 : Int32) then mBd (mCk 3 x0 (f_X3_blame x0 (1 : Int32))) (fun r6 => mRq (r6 = 0 ∨ r6 = 1) (mRt r6)) else mBd (mGetA 3 0 x0) (fun r7 => mBd (mCk 7 r7 (f_X9_atSign r7 (42 : Int32))) (fun r8 => (if ¬ r8 = 0 then mBd (mGetA 3 0 x0) (fun r9 => mBd (mCk 7 r9 (f_X9_step r9)) (fun _ => mBd (mCk 3 x0 (g_X3_readAtom x0 x1)) (fun r10 => (if ¬ r10 = 0 then mBd (mGetA 3 1 x0) (fun r11 => mBd (mGetA 3 6 x0) (fun r12 => mBd (mCk 2 r12 (f_X2_order r12)) (fun r13 => mBd (mCk 5 r11 (f_X5_multiply r11 x2 x3 x2 r13)) (fun _ => mBd (mGetI 3 13 x0) (fun r14 => (if ¬ r14 = 0 then f_X3_readProduct_j107 g_X3_readSum g_X3_readProduct g_X3_readAtom g_X3_readDeeper k36 x0 x1 x2 x3 x4 x0 else mBd (f_X6_isHuge x2) (fun r15 => (if r15 = 0 then mBd (mPutZ 3 13 x0 (0 : Int32)) (fun _ => k36 (x4 + 1)) else f_X3_readProduct_j107 g_X3_readSum g_X3_readProduct g_X3_readAtom g_X3_readDeeper k36 x0 x1 x2 x3 x4 x0)))))))) else mRt (0 : Int32))))) else mRt (1 : Int32)))))
def f_X3_readProduct_l36 (g_X3_readSum : (Option Nat) → Int32 → Mo Int32) (g_X3_readProduct : (Option Nat) → Int32 → Mo Int32) (g_X3_readAtom : (Option Nat) → Int32 → Mo Int32) (g_X3_readDeeper : (Option Nat) → Int32 → (Option Nat) → Mo Int32) (x0 : (Option Nat)) (x1 : Int32) (x2 : (Option Nat)) (x3 : (Option Nat)) : Int32 → Mo Int32 := lq1 (f_X3_readProduct_b36 g_X3_readSum g_X3_readProduct g_X3_readAtom g_X3_readDeeper x0 x1 x2 x3) fuel
set_option maxRecDepth 100000 in
theorem s_X3_readProduct_b36 {cx : CX} {d : Nat} {g_X3_readSum : (Option Nat) → Int32 → Mo Int32} {g_X3_readProduct : (Option Nat) → Int32 → Mo Int32} {g_X3_readAtom : (Option Nat) → Int32 → Mo Int32} {g_X3_readDeeper : (Option Nat) → Int32 → (Option Nat) → Mo Int32} (hg_X3_readSum : ∀ (a0 : (Option Nat)) (a1 : Int32), Cn cx.1 (m_X3_readSum d) eI [vA a0, vI a1] (mCk 3 a0 (g_X3_readSum a0 a1))) (hg_X3_readProduct : ∀ (a0 : (Option Nat)) (a1 : Int32), Cn cx.1 (m_X3_readProduct d) eI [vA a0, vI a1] (mCk 3 a0 (g_X3_readProduct a0 a1))) (hg_X3_readAtom : ∀ (a0 : (Option Nat)) (a1 : Int32), Cn cx.1 (m_X3_readAtom d) eI [vA a0, vI a1] (mCk 3 a0 (g_X3_readAtom a0 a1))) (hg_X3_readDeeper : ∀ (a0 : (Option Nat)) (a1 : Int32) (a2 : (Option Nat)), Cn cx.1 (m_X3_readDeeper d) eI [vA a0, vI a1, vA a2] (mCk 3 a0 (g_X3_readDeeper a0 a1 a2))) (x0 : (Option Nat)) (x1 : Int32) (x2 : (Option Nat)) (x3 : (Option Nat)) {k36 : Int32 → Mo Int32} (hk36 : ∀ (z4 : Int32), Sn cx (m_X3_readProduct (d + 1)) eI 36 [(4, vI z4), (0, vA x0), (1, vI x1), (2, vA x2), (3, vA x3)] [] (k36 z4)) (x4 : Int32) : Sn cx (m_X3_readProduct (d + 1)) eI 36 [(4, vI x4), (0, vA x0), (1, vI x1), (2, vA x2), (3, vA x3)] [] (f_X3_readProduct_b36 g_X3_readSum g_X3_readProduct g_X3_readAtom g_X3_readDeeper x0 x1 x2 x3 k36 x4) := by
  refine sn_iload (y := (m_X3_readProduct (d + 1))) (pc := 36) dX3_readProduct_36 rfl ?_
  refine sn_sipush (y := (m_X3_readProduct (d + 1))) (pc := 38) dX3_readProduct_38 kc_sipush_900 ?_
  refine sn_icmp_gt (y := (m_X3_readProduct (d + 1))) (pc := 41) (tgt := 121) dX3_readProduct_41 (by decide) (fun _ => ?_) (fun _ => ?_)
  · refine sn_aload_n (y := (m_X3_readProduct (d + 1))) (pc := 121) dX3_readProduct_121 rfl ?_
    refine sn_iconst (y := (m_X3_readProduct (d + 1))) (pc := 122) dX3_readProduct_122 kc_iconst_1 ?_
    refine sn_invV (y := (m_X3_readProduct (d + 1))) (pc := 123) ca_3 (av := [vI (1 : Int32)]) (o := x0) (st := []) dX3_readProduct_123 lk_X3_111 im_X3_blame se_X3_blame rfl rfl rfl rfl ⟨by show 2 + 1 ≤ 5 + (d + 1); omega, by show 8 + (2 + 11) + 30 ≤ 108 + 60 * (d + 1); omega⟩ (c_X3_blame cx.1 x0 (1 : Int32)) (fun r6 => ?_)
    exact sn_zreturn rfl dX3_readProduct_126
  refine sn_aload_n (y := (m_X3_readProduct (d + 1))) (pc := 44) dX3_readProduct_44 rfl ?_
  refine sn_getA (y := (m_X3_readProduct (d + 1))) (pc := 45) ca_3 rfl fk_X3_12 (fun _ _ _ => rfl) dX3_readProduct_45 (fun r7 => ?_)
  refine sn_bipush (y := (m_X3_readProduct (d + 1))) (pc := 48) dX3_readProduct_48 kc_bipush_42 ?_
  refine sn_invV (y := (m_X3_readProduct (d + 1))) (pc := 50) ca_7 (av := [vI (42 : Int32)]) (o := r7) (st := []) dX3_readProduct_50 lk_X3_114 im_X9_atSign se_X9_atSign rfl rfl rfl rfl ⟨by show 2 + 1 ≤ 5 + (d + 1); omega, by show 8 + (2 + 11) + 30 ≤ 108 + 60 * (d + 1); omega⟩ (c_X9_atSign cx.1 r7 (42 : Int32)) (fun r8 => ?_)
  refine sn_if_ne (y := (m_X3_readProduct (d + 1))) (pc := 53) (tgt := 58) dX3_readProduct_53 (by decide) (fun _ => ?_) (fun _ => ?_)
  · refine sn_aload_n (y := (m_X3_readProduct (d + 1))) (pc := 58) dX3_readProduct_58 rfl ?_
    refine sn_getA (y := (m_X3_readProduct (d + 1))) (pc := 59) ca_3 rfl fk_X3_12 (fun _ _ _ => rfl) dX3_readProduct_59 (fun r9 => ?_)
    refine sn_invV (y := (m_X3_readProduct (d + 1))) (pc := 62) ca_7 (av := []) (o := r9) (st := []) dX3_readProduct_62 lk_X3_92 im_X9_step se_X9_step rfl rfl rfl rfl ⟨by show 2 + 1 ≤ 5 + (d + 1); omega, by show 8 + (2 + 11) + 30 ≤ 108 + 60 * (d + 1); omega⟩ (c_X9_step cx.1 r9) (fun _ => ?_)
    refine sn_aload_n (y := (m_X3_readProduct (d + 1))) (pc := 65) dX3_readProduct_65 rfl ?_
    refine sn_iload_n (y := (m_X3_readProduct (d + 1))) (pc := 66) dX3_readProduct_66 rfl ?_
    refine sn_invV (y := (m_X3_readProduct (d + 1))) (pc := 67) ca_3 (av := [vI x1]) (o := x0) (st := []) dX3_readProduct_67 (lk_X3_239 d) im_X3_readAtom se_X3_readAtom rfl rfl rfl rfl ⟨by show 5 + d + 1 ≤ 5 + (d + 1); omega, by show 8 + (4 + 11) + (108 + 60 * d) ≤ 108 + 60 * (d + 1); omega⟩ (hg_X3_readAtom x0 x1) (fun r10 => ?_)
    refine sn_if_ne (y := (m_X3_readProduct (d + 1))) (pc := 70) (tgt := 75) dX3_readProduct_70 (by decide) (fun _ => ?_) (fun _ => ?_)
    · refine sn_aload_n (y := (m_X3_readProduct (d + 1))) (pc := 75) dX3_readProduct_75 rfl ?_
      refine sn_getA (y := (m_X3_readProduct (d + 1))) (pc := 76) ca_3 rfl fk_X3_21 (fun _ _ _ => rfl) dX3_readProduct_76 (fun r11 => ?_)
      refine sn_aload_n (y := (m_X3_readProduct (d + 1))) (pc := 79) dX3_readProduct_79 rfl ?_
      refine sn_aload_n (y := (m_X3_readProduct (d + 1))) (pc := 80) dX3_readProduct_80 rfl ?_
      refine sn_aload_n (y := (m_X3_readProduct (d + 1))) (pc := 81) dX3_readProduct_81 rfl ?_
      refine sn_aload_n (y := (m_X3_readProduct (d + 1))) (pc := 82) dX3_readProduct_82 rfl ?_
      refine sn_getA (y := (m_X3_readProduct (d + 1))) (pc := 83) ca_3 rfl fk_X3_46 (fun _ _ _ => rfl) dX3_readProduct_83 (fun r12 => ?_)
      refine sn_invV (y := (m_X3_readProduct (d + 1))) (pc := 86) ca_2 (av := []) (o := r12) (st := [vA x2, vA x3, vA x2, vA r11]) dX3_readProduct_86 lk_X3_242 im_X2_order se_X2_order rfl rfl rfl rfl ⟨by show 2 + 1 ≤ 5 + (d + 1); omega, by show 8 + (1 + 11) + 30 ≤ 108 + 60 * (d + 1); omega⟩ (c_X2_order cx.1 r12) (fun r13 => ?_)
      refine sn_invV (y := (m_X3_readProduct (d + 1))) (pc := 89) ca_5 (av := [vA x2, vA x3, vA x2, vI r13]) (o := r11) (st := []) dX3_readProduct_89 lk_X3_245 im_X5_multiply se_X5_multiply rfl rfl rfl rfl ⟨by show 4 + 1 ≤ 5 + (d + 1); omega, by show 8 + (8 + 11) + 81 ≤ 108 + 60 * (d + 1); omega⟩ (c_X5_multiply cx.1 r11 x2 x3 x2 r13) (fun _ => ?_)
      refine sn_aload_n (y := (m_X3_readProduct (d + 1))) (pc := 92) dX3_readProduct_92 rfl ?_
      refine sn_aload_n (y := (m_X3_readProduct (d + 1))) (pc := 93) dX3_readProduct_93 rfl ?_
      refine sn_getI (y := (m_X3_readProduct (d + 1))) (pc := 94) ca_3 rfl fk_X3_70 (fun _ _ _ => rfl) dX3_readProduct_94 (fun r14 => ?_)
      refine sn_if_ne (y := (m_X3_readProduct (d + 1))) (pc := 97) (tgt := 107) dX3_readProduct_97 (by decide) (fun _ => ?_) (fun _ => ?_)
      · exact sn_sub rfl (s_X3_readProduct_j107 hg_X3_readSum hg_X3_readProduct hg_X3_readAtom hg_X3_readDeeper x0 x1 x2 x3 x4 x0 hk36)
      refine sn_aload_n (y := (m_X3_readProduct (d + 1))) (pc := 100) dX3_readProduct_100 rfl ?_
      refine sn_invS (y := (m_X3_readProduct (d + 1))) (pc := 101) (av := [vA x2]) (st := [vA x0]) dX3_readProduct_101 lk_X3_235 sw_X6_isHuge rfl rfl rfl ⟨by show 2 + 1 ≤ 5 + (d + 1); omega, by show 8 + (2 + 11) + 30 ≤ 108 + 60 * (d + 1); omega⟩ (c_X6_isHuge cx.1 x2) (fun r15 => ?_)
      refine sn_if_eq (y := (m_X3_readProduct (d + 1))) (pc := 104) (tgt := 111) dX3_readProduct_104 (by decide) (fun _ => ?_) (fun _ => ?_)
      · refine sn_iconst (y := (m_X3_readProduct (d + 1))) (pc := 111) dX3_readProduct_111 kc_iconst_0 ?_
        refine sn_putZ (y := (m_X3_readProduct (d + 1))) (pc := 112) ca_3 rfl fk_X3_70 (Or.inl rfl) rfl dX3_readProduct_112 ?_
        refine sn_iinc (y := (m_X3_readProduct (d + 1))) (pc := 115) (v := x4 + 1) dX3_readProduct_115 rfl (by rfl) rfl ?_
        refine sn_goto (y := (m_X3_readProduct (d + 1))) (pc := 118) (tgt := 36) dX3_readProduct_118 (by decide) ?_
        exact sn_sub rfl (hk36 (x4 + 1))
      exact sn_sub rfl (s_X3_readProduct_j107 hg_X3_readSum hg_X3_readProduct hg_X3_readAtom hg_X3_readDeeper x0 x1 x2 x3 x4 x0 hk36)
    refine sn_iconst (y := (m_X3_readProduct (d + 1))) (pc := 73) dX3_readProduct_73 kc_iconst_0 ?_
    exact sn_zreturnC (by decide) rfl dX3_readProduct_74
  refine sn_iconst (y := (m_X3_readProduct (d + 1))) (pc := 56) dX3_readProduct_56 kc_iconst_1 ?_
  exact sn_zreturnC (by decide) rfl dX3_readProduct_57
set_option maxRecDepth 100000 in
theorem s_X3_readProduct_l36 {cx : CX} {d : Nat} {g_X3_readSum : (Option Nat) → Int32 → Mo Int32} {g_X3_readProduct : (Option Nat) → Int32 → Mo Int32} {g_X3_readAtom : (Option Nat) → Int32 → Mo Int32} {g_X3_readDeeper : (Option Nat) → Int32 → (Option Nat) → Mo Int32} (hg_X3_readSum : ∀ (a0 : (Option Nat)) (a1 : Int32), Cn cx.1 (m_X3_readSum d) eI [vA a0, vI a1] (mCk 3 a0 (g_X3_readSum a0 a1))) (hg_X3_readProduct : ∀ (a0 : (Option Nat)) (a1 : Int32), Cn cx.1 (m_X3_readProduct d) eI [vA a0, vI a1] (mCk 3 a0 (g_X3_readProduct a0 a1))) (hg_X3_readAtom : ∀ (a0 : (Option Nat)) (a1 : Int32), Cn cx.1 (m_X3_readAtom d) eI [vA a0, vI a1] (mCk 3 a0 (g_X3_readAtom a0 a1))) (hg_X3_readDeeper : ∀ (a0 : (Option Nat)) (a1 : Int32) (a2 : (Option Nat)), Cn cx.1 (m_X3_readDeeper d) eI [vA a0, vI a1, vA a2] (mCk 3 a0 (g_X3_readDeeper a0 a1 a2))) (x0 : (Option Nat)) (x1 : Int32) (x2 : (Option Nat)) (x3 : (Option Nat)) (x4 : Int32) : Sn cx (m_X3_readProduct (d + 1)) eI 36 [(4, vI x4), (0, vA x0), (1, vI x1), (2, vA x2), (3, vA x3)] [] (f_X3_readProduct_l36 g_X3_readSum g_X3_readProduct g_X3_readAtom g_X3_readDeeper x0 x1 x2 x3 x4) :=
  sn_lq1 (L := fun x4 => [(4, vI x4), (0, vA x0), (1, vI x1), (2, vA x2), (3, vA x3)]) (fun k hk x4 => s_X3_readProduct_b36 hg_X3_readSum hg_X3_readProduct hg_X3_readAtom hg_X3_readDeeper x0 x1 x2 x3 hk x4) fuel x4
def fb_X3_readProduct (g_X3_readSum : (Option Nat) → Int32 → Mo Int32) (g_X3_readProduct : (Option Nat) → Int32 → Mo Int32) (g_X3_readAtom : (Option Nat) → Int32 → Mo Int32) (g_X3_readDeeper : (Option Nat) → Int32 → (Option Nat) → Mo Int32) (p0 : (Option Nat)) (p1 : Int32) : Mo Int32 :=
  mBd (mGetA 3 3 p0) (fun r1 => mBd (f_X6_rowAt r1 p1) (fun r2 => mBd (mGetA 3 4 p0) (fun r3 => mBd (f_X6_rowAt r3 p1) (fun r4 => mBd (mCk 3 p0 (g_X3_readAtom p0 p1)) (fun r5 => (if ¬ r5 = 0 then mBd (f_X6_copy r4 r2) (fun _ => f_X3_readProduct_l36 g_X3_readSum g_X3_readProduct g_X3_readAtom g_X3_readDeeper p0 p1 r2 r4 (0 : Int32)) else mRt (0 : Int32)))))))
set_option maxRecDepth 100000 in
theorem s_X3_readProduct {cx : CX} {d : Nat} {g_X3_readSum : (Option Nat) → Int32 → Mo Int32} {g_X3_readProduct : (Option Nat) → Int32 → Mo Int32} {g_X3_readAtom : (Option Nat) → Int32 → Mo Int32} {g_X3_readDeeper : (Option Nat) → Int32 → (Option Nat) → Mo Int32} (hg_X3_readSum : ∀ (a0 : (Option Nat)) (a1 : Int32), Cn cx.1 (m_X3_readSum d) eI [vA a0, vI a1] (mCk 3 a0 (g_X3_readSum a0 a1))) (hg_X3_readProduct : ∀ (a0 : (Option Nat)) (a1 : Int32), Cn cx.1 (m_X3_readProduct d) eI [vA a0, vI a1] (mCk 3 a0 (g_X3_readProduct a0 a1))) (hg_X3_readAtom : ∀ (a0 : (Option Nat)) (a1 : Int32), Cn cx.1 (m_X3_readAtom d) eI [vA a0, vI a1] (mCk 3 a0 (g_X3_readAtom a0 a1))) (hg_X3_readDeeper : ∀ (a0 : (Option Nat)) (a1 : Int32) (a2 : (Option Nat)), Cn cx.1 (m_X3_readDeeper d) eI [vA a0, vI a1, vA a2] (mCk 3 a0 (g_X3_readDeeper a0 a1 a2))) (p0 : (Option Nat)) (p1 : Int32) : Sn cx (m_X3_readProduct (d + 1)) eI 0 [(0, vA p0), (1, vI p1)] [] (fb_X3_readProduct g_X3_readSum g_X3_readProduct g_X3_readAtom g_X3_readDeeper p0 p1) := by
  refine sn_aload_n (y := (m_X3_readProduct (d + 1))) (pc := 0) dX3_readProduct_0 rfl ?_
  refine sn_getA (y := (m_X3_readProduct (d + 1))) (pc := 1) ca_3 rfl fk_X3_30 (fun _ _ _ => rfl) dX3_readProduct_1 (fun r1 => ?_)
  refine sn_iload_n (y := (m_X3_readProduct (d + 1))) (pc := 4) dX3_readProduct_4 rfl ?_
  refine sn_invS (y := (m_X3_readProduct (d + 1))) (pc := 5) (av := [vA r1, vI p1]) (st := []) dX3_readProduct_5 lk_X3_212 sw_X6_rowAt rfl rfl rfl ⟨by show 2 + 1 ≤ 5 + (d + 1); omega, by show 8 + (2 + 11) + 30 ≤ 108 + 60 * (d + 1); omega⟩ (c_X6_rowAt cx.1 r1 p1) (fun r2 => ?_)
  refine sn_astore_n (y := (m_X3_readProduct (d + 1))) (pc := 8) dX3_readProduct_8 rfl ?_
  refine sn_aload_n (y := (m_X3_readProduct (d + 1))) (pc := 9) dX3_readProduct_9 rfl ?_
  refine sn_getA (y := (m_X3_readProduct (d + 1))) (pc := 10) ca_3 rfl fk_X3_33 (fun _ _ _ => rfl) dX3_readProduct_10 (fun r3 => ?_)
  refine sn_iload_n (y := (m_X3_readProduct (d + 1))) (pc := 13) dX3_readProduct_13 rfl ?_
  refine sn_invS (y := (m_X3_readProduct (d + 1))) (pc := 14) (av := [vA r3, vI p1]) (st := []) dX3_readProduct_14 lk_X3_212 sw_X6_rowAt rfl rfl rfl ⟨by show 2 + 1 ≤ 5 + (d + 1); omega, by show 8 + (2 + 11) + 30 ≤ 108 + 60 * (d + 1); omega⟩ (c_X6_rowAt cx.1 r3 p1) (fun r4 => ?_)
  refine sn_astore_n (y := (m_X3_readProduct (d + 1))) (pc := 17) dX3_readProduct_17 rfl ?_
  refine sn_aload_n (y := (m_X3_readProduct (d + 1))) (pc := 18) dX3_readProduct_18 rfl ?_
  refine sn_iload_n (y := (m_X3_readProduct (d + 1))) (pc := 19) dX3_readProduct_19 rfl ?_
  refine sn_invV (y := (m_X3_readProduct (d + 1))) (pc := 20) ca_3 (av := [vI p1]) (o := p0) (st := []) dX3_readProduct_20 (lk_X3_239 d) im_X3_readAtom se_X3_readAtom rfl rfl rfl rfl ⟨by show 5 + d + 1 ≤ 5 + (d + 1); omega, by show 8 + (4 + 11) + (108 + 60 * d) ≤ 108 + 60 * (d + 1); omega⟩ (hg_X3_readAtom p0 p1) (fun r5 => ?_)
  refine sn_if_ne (y := (m_X3_readProduct (d + 1))) (pc := 23) (tgt := 28) dX3_readProduct_23 (by decide) (fun _ => ?_) (fun _ => ?_)
  · refine sn_aload_n (y := (m_X3_readProduct (d + 1))) (pc := 28) dX3_readProduct_28 rfl ?_
    refine sn_aload_n (y := (m_X3_readProduct (d + 1))) (pc := 29) dX3_readProduct_29 rfl ?_
    refine sn_invS (y := (m_X3_readProduct (d + 1))) (pc := 30) (av := [vA r4, vA r2]) (st := []) dX3_readProduct_30 lk_X3_225 sw_X6_copy rfl rfl rfl ⟨by show 2 + 1 ≤ 5 + (d + 1); omega, by show 8 + (3 + 11) + 30 ≤ 108 + 60 * (d + 1); omega⟩ (c_X6_copy cx.1 r4 r2) (fun _ => ?_)
    refine sn_iconst (y := (m_X3_readProduct (d + 1))) (pc := 33) dX3_readProduct_33 kc_iconst_0 ?_
    refine sn_istore (y := (m_X3_readProduct (d + 1))) (pc := 34) dX3_readProduct_34 rfl ?_
    exact sn_sub rfl (s_X3_readProduct_l36 hg_X3_readSum hg_X3_readProduct hg_X3_readAtom hg_X3_readDeeper p0 p1 r2 r4 (0 : Int32))
  refine sn_iconst (y := (m_X3_readProduct (d + 1))) (pc := 26) dX3_readProduct_26 kc_iconst_0 ?_
  exact sn_zreturnC (by decide) rfl dX3_readProduct_27
/-! X3_readAtom -/
def f_X3_readAtom_j166 (g_X3_readSum : (Option Nat) → Int32 → Mo Int32) (g_X3_readProduct : (Option Nat) → Int32 → Mo Int32) (g_X3_readAtom : (Option Nat) → Int32 → Mo Int32) (g_X3_readDeeper : (Option Nat) → Int32 → (Option Nat) → Mo Int32) (x0 : (Option Nat)) (x2 : (Option Nat)) (x3 : Int32) : Mo Int32 :=
  mBd (mGetI 3 13 x0) (fun r12 => (if ¬ r12 = 0 then mBd (mPutZ 3 13 x0 (1 : Int32)) (fun _ => mRq (x3 = 0 ∨ x3 = 1) (mRt x3)) else mBd (f_X6_isHuge x2) (fun r13 => (if r13 = 0 then mBd (mPutZ 3 13 x0 (0 : Int32)) (fun _ => mRq (x3 = 0 ∨ x3 = 1) (mRt x3)) else mBd (mPutZ 3 13 x0 (1 : Int32)) (fun _ => mRq (x3 = 0 ∨ x3 = 1) (mRt x3))))))
set_option maxRecDepth 100000 in
theorem s_X3_readAtom_j166 {cx : CX} {d : Nat} {g_X3_readSum : (Option Nat) → Int32 → Mo Int32} {g_X3_readProduct : (Option Nat) → Int32 → Mo Int32} {g_X3_readAtom : (Option Nat) → Int32 → Mo Int32} {g_X3_readDeeper : (Option Nat) → Int32 → (Option Nat) → Mo Int32} (hg_X3_readSum : ∀ (a0 : (Option Nat)) (a1 : Int32), Cn cx.1 (m_X3_readSum d) eI [vA a0, vI a1] (mCk 3 a0 (g_X3_readSum a0 a1))) (hg_X3_readProduct : ∀ (a0 : (Option Nat)) (a1 : Int32), Cn cx.1 (m_X3_readProduct d) eI [vA a0, vI a1] (mCk 3 a0 (g_X3_readProduct a0 a1))) (hg_X3_readAtom : ∀ (a0 : (Option Nat)) (a1 : Int32), Cn cx.1 (m_X3_readAtom d) eI [vA a0, vI a1] (mCk 3 a0 (g_X3_readAtom a0 a1))) (hg_X3_readDeeper : ∀ (a0 : (Option Nat)) (a1 : Int32) (a2 : (Option Nat)), Cn cx.1 (m_X3_readDeeper d) eI [vA a0, vI a1, vA a2] (mCk 3 a0 (g_X3_readDeeper a0 a1 a2))) (x0 : (Option Nat)) (x2 : (Option Nat)) (x3 : Int32) : Sn cx (m_X3_readAtom (d + 1)) eI 166 [(0, vA x0), (2, vA x2), (3, vI x3)] [] (f_X3_readAtom_j166 g_X3_readSum g_X3_readProduct g_X3_readAtom g_X3_readDeeper x0 x2 x3) := by
  refine sn_aload_n (y := (m_X3_readAtom (d + 1))) (pc := 166) dX3_readAtom_166 rfl ?_
  refine sn_aload_n (y := (m_X3_readAtom (d + 1))) (pc := 167) dX3_readAtom_167 rfl ?_
  refine sn_getI (y := (m_X3_readAtom (d + 1))) (pc := 168) ca_3 rfl fk_X3_70 (fun _ _ _ => rfl) dX3_readAtom_168 (fun r12 => ?_)
  refine sn_if_ne (y := (m_X3_readAtom (d + 1))) (pc := 171) (tgt := 181) dX3_readAtom_171 (by decide) (fun _ => ?_) (fun _ => ?_)
  · refine sn_iconst (y := (m_X3_readAtom (d + 1))) (pc := 181) dX3_readAtom_181 kc_iconst_1 ?_
    refine sn_goto (y := (m_X3_readAtom (d + 1))) (pc := 182) (tgt := 186) dX3_readAtom_182 (by decide) ?_
    refine sn_putZ (y := (m_X3_readAtom (d + 1))) (pc := 186) ca_3 rfl fk_X3_70 (Or.inl rfl) rfl dX3_readAtom_186 ?_
    refine sn_iload_n (y := (m_X3_readAtom (d + 1))) (pc := 189) dX3_readAtom_189 rfl ?_
    exact sn_zreturn rfl dX3_readAtom_190
  refine sn_aload_n (y := (m_X3_readAtom (d + 1))) (pc := 174) dX3_readAtom_174 rfl ?_
  refine sn_invS (y := (m_X3_readAtom (d + 1))) (pc := 175) (av := [vA x2]) (st := [vA x0]) dX3_readAtom_175 lk_X3_235 sw_X6_isHuge rfl rfl rfl ⟨by show 2 + 1 ≤ 5 + (d + 1); omega, by show 8 + (2 + 11) + 30 ≤ 108 + 60 * (d + 1); omega⟩ (c_X6_isHuge cx.1 x2) (fun r13 => ?_)
  refine sn_if_eq (y := (m_X3_readAtom (d + 1))) (pc := 178) (tgt := 185) dX3_readAtom_178 (by decide) (fun _ => ?_) (fun _ => ?_)
  · refine sn_iconst (y := (m_X3_readAtom (d + 1))) (pc := 185) dX3_readAtom_185 kc_iconst_0 ?_
    refine sn_putZ (y := (m_X3_readAtom (d + 1))) (pc := 186) ca_3 rfl fk_X3_70 (Or.inl rfl) rfl dX3_readAtom_186 ?_
    refine sn_iload_n (y := (m_X3_readAtom (d + 1))) (pc := 189) dX3_readAtom_189 rfl ?_
    exact sn_zreturn rfl dX3_readAtom_190
  refine sn_iconst (y := (m_X3_readAtom (d + 1))) (pc := 181) dX3_readAtom_181 kc_iconst_1 ?_
  refine sn_goto (y := (m_X3_readAtom (d + 1))) (pc := 182) (tgt := 186) dX3_readAtom_182 (by decide) ?_
  refine sn_putZ (y := (m_X3_readAtom (d + 1))) (pc := 186) ca_3 rfl fk_X3_70 (Or.inl rfl) rfl dX3_readAtom_186 ?_
  refine sn_iload_n (y := (m_X3_readAtom (d + 1))) (pc := 189) dX3_readAtom_189 rfl ?_
  exact sn_zreturn rfl dX3_readAtom_190
def fb_X3_readAtom (g_X3_readSum : (Option Nat) → Int32 → Mo Int32) (g_X3_readProduct : (Option Nat) → Int32 → Mo Int32) (g_X3_readAtom : (Option Nat) → Int32 → Mo Int32) (g_X3_readDeeper : (Option Nat) → Int32 → (Option Nat) → Mo Int32) (p0 : (Option Nat)) (p1 : Int32) : Mo Int32 :=
  mBd (mGetA 3 4 p0) (fun r1 => mBd (f_X6_rowAt r1 p1) (fun r2 => mBd (mGetA 3 0 p0) (fun r3 => mBd (mCk 7 r3 (f_X9_atWhole r3)) (fun r4 => (if r4 = 0 then mBd (mGetA 3 0 p0) (fun r5 => mBd (mCk 7 r5 (f_X9_atName r5)) (fun r6 => (if r6 = 0 then mBd (mGetA 3 0 p0) (fun r7 => mBd (mCk 7 r7 (f_X9_atWord r7 (9 : Int32))) (fun r8 => (if r8 = 0 then mBd (mGetA 3 0 p0) (fun r9 => mBd (mCk 7 r9 (f_X9_atWord r9 (10 : Int32))) (fun r10 => (if r10 = 0 then mBd (mCk 3 p0 (g_X3_readDeeper p0 p1 r2)) (fun r11 => f_X3_readAtom_j166 g_X3_readSum g_X3_readProduct g_X3_readAtom g_X3_readDeeper p0 r2 r11) else mBd (mGetA 3 0 p0) (fun r14 => mBd (mCk 7 r14 (f_X9_step r14)) (fun _ => mBd (mCk 3 p0 (f_X3_takeTwoCharacters p0)) (fun r15 => mBd (mGetA 3 6 p0) (fun r16 => mBd (mGetI 3 10 p0) (fun r17 => mBd (mGetI 3 9 p0) (fun r18 => mBd (mGetA 3 1 p0) (fun r19 => mBd (mCk 2 r16 (f_X2_jacobiSum r16 r17 r18 r19 r2)) (fun _ => f_X3_readAtom_j166 g_X3_readSum g_X3_readProduct g_X3_readAtom g_X3_readDeeper p0 r2 r15))))))))))) else mBd (mGetA 3 0 p0) (fun r20 => mBd (mCk 7 r20 (f_X9_step r20)) (fun _ => mBd (mGetA 3 0 p0) (fun r21 => mBd (mCk 7 r21 (f_X9_atWholeWithin r21 (0 : Int32) (99 : Int32))) (fun r22 => mBd (mCk 3 p0 (f_X3_takeWhole p0 r22)) (fun r23 => mBd (mGetA 3 1 p0) (fun r24 => mBd (mGetI 3 9 p0) (fun r25 => mBd (mGetA 3 6 p0) (fun r26 => mBd (mCk 2 r26 (f_X2_order r26)) (fun r27 => mBd (mCk 5 r24 (f_X5_powerOfZ r24 r25 r2 r27)) (fun _ => f_X3_readAtom_j166 g_X3_readSum g_X3_readProduct g_X3_readAtom g_X3_readDeeper p0 r2 r23))))))))))))) else mBd (mCk 3 p0 (f_X3_readLetName p0 r2)) (fun r28 => f_X3_readAtom_j166 g_X3_readSum g_X3_readProduct g_X3_readAtom g_X3_readDeeper p0 r2 r28)))) else mBd (mCk 3 p0 (f_X3_takeWhole p0 (1 : Int32))) (fun r29 => mBd (mGetI 3 9 p0) (fun r30 => mBd (f_X6_setWhole r2 (r30.toInt64)) (fun _ => f_X3_readAtom_j166 g_X3_readSum g_X3_readProduct g_X3_readAtom g_X3_readDeeper p0 r2 r29))))))))
set_option maxRecDepth 100000 in
theorem s_X3_readAtom {cx : CX} {d : Nat} {g_X3_readSum : (Option Nat) → Int32 → Mo Int32} {g_X3_readProduct : (Option Nat) → Int32 → Mo Int32} {g_X3_readAtom : (Option Nat) → Int32 → Mo Int32} {g_X3_readDeeper : (Option Nat) → Int32 → (Option Nat) → Mo Int32} (hg_X3_readSum : ∀ (a0 : (Option Nat)) (a1 : Int32), Cn cx.1 (m_X3_readSum d) eI [vA a0, vI a1] (mCk 3 a0 (g_X3_readSum a0 a1))) (hg_X3_readProduct : ∀ (a0 : (Option Nat)) (a1 : Int32), Cn cx.1 (m_X3_readProduct d) eI [vA a0, vI a1] (mCk 3 a0 (g_X3_readProduct a0 a1))) (hg_X3_readAtom : ∀ (a0 : (Option Nat)) (a1 : Int32), Cn cx.1 (m_X3_readAtom d) eI [vA a0, vI a1] (mCk 3 a0 (g_X3_readAtom a0 a1))) (hg_X3_readDeeper : ∀ (a0 : (Option Nat)) (a1 : Int32) (a2 : (Option Nat)), Cn cx.1 (m_X3_readDeeper d) eI [vA a0, vI a1, vA a2] (mCk 3 a0 (g_X3_readDeeper a0 a1 a2))) (p0 : (Option Nat)) (p1 : Int32) : Sn cx (m_X3_readAtom (d + 1)) eI 0 [(0, vA p0), (1, vI p1)] [] (fb_X3_readAtom g_X3_readSum g_X3_readProduct g_X3_readAtom g_X3_readDeeper p0 p1) := by
  refine sn_aload_n (y := (m_X3_readAtom (d + 1))) (pc := 0) dX3_readAtom_0 rfl ?_
  refine sn_getA (y := (m_X3_readAtom (d + 1))) (pc := 1) ca_3 rfl fk_X3_33 (fun _ _ _ => rfl) dX3_readAtom_1 (fun r1 => ?_)
  refine sn_iload_n (y := (m_X3_readAtom (d + 1))) (pc := 4) dX3_readAtom_4 rfl ?_
  refine sn_invS (y := (m_X3_readAtom (d + 1))) (pc := 5) (av := [vA r1, vI p1]) (st := []) dX3_readAtom_5 lk_X3_212 sw_X6_rowAt rfl rfl rfl ⟨by show 2 + 1 ≤ 5 + (d + 1); omega, by show 8 + (2 + 11) + 30 ≤ 108 + 60 * (d + 1); omega⟩ (c_X6_rowAt cx.1 r1 p1) (fun r2 => ?_)
  refine sn_astore_n (y := (m_X3_readAtom (d + 1))) (pc := 8) dX3_readAtom_8 rfl ?_
  refine sn_aload_n (y := (m_X3_readAtom (d + 1))) (pc := 9) dX3_readAtom_9 rfl ?_
  refine sn_getA (y := (m_X3_readAtom (d + 1))) (pc := 10) ca_3 rfl fk_X3_12 (fun _ _ _ => rfl) dX3_readAtom_10 (fun r3 => ?_)
  refine sn_invV (y := (m_X3_readAtom (d + 1))) (pc := 13) ca_7 (av := []) (o := r3) (st := []) dX3_readAtom_13 lk_X3_118 im_X9_atWhole se_X9_atWhole rfl rfl rfl rfl ⟨by show 2 + 1 ≤ 5 + (d + 1); omega, by show 8 + (1 + 11) + 30 ≤ 108 + 60 * (d + 1); omega⟩ (c_X9_atWhole cx.1 r3) (fun r4 => ?_)
  refine sn_if_eq (y := (m_X3_readAtom (d + 1))) (pc := 16) (tgt := 37) dX3_readAtom_16 (by decide) (fun _ => ?_) (fun _ => ?_)
  · refine sn_aload_n (y := (m_X3_readAtom (d + 1))) (pc := 37) dX3_readAtom_37 rfl ?_
    refine sn_getA (y := (m_X3_readAtom (d + 1))) (pc := 38) ca_3 rfl fk_X3_12 (fun _ _ _ => rfl) dX3_readAtom_38 (fun r5 => ?_)
    refine sn_invV (y := (m_X3_readAtom (d + 1))) (pc := 41) ca_7 (av := []) (o := r5) (st := []) dX3_readAtom_41 lk_X3_124 im_X9_atName se_X9_atName rfl rfl rfl rfl ⟨by show 2 + 1 ≤ 5 + (d + 1); omega, by show 8 + (1 + 11) + 30 ≤ 108 + 60 * (d + 1); omega⟩ (c_X9_atName cx.1 r5) (fun r6 => ?_)
    refine sn_if_eq (y := (m_X3_readAtom (d + 1))) (pc := 44) (tgt := 56) dX3_readAtom_44 (by decide) (fun _ => ?_) (fun _ => ?_)
    · refine sn_aload_n (y := (m_X3_readAtom (d + 1))) (pc := 56) dX3_readAtom_56 rfl ?_
      refine sn_getA (y := (m_X3_readAtom (d + 1))) (pc := 57) ca_3 rfl fk_X3_12 (fun _ _ _ => rfl) dX3_readAtom_57 (fun r7 => ?_)
      refine sn_bipush (y := (m_X3_readAtom (d + 1))) (pc := 60) dX3_readAtom_60 kc_bipush_9 ?_
      refine sn_invV (y := (m_X3_readAtom (d + 1))) (pc := 62) ca_7 (av := [vI (9 : Int32)]) (o := r7) (st := []) dX3_readAtom_62 lk_X3_98 im_X9_atWord se_X9_atWord rfl rfl rfl rfl ⟨by show 2 + 1 ≤ 5 + (d + 1); omega, by show 8 + (2 + 11) + 30 ≤ 108 + 60 * (d + 1); omega⟩ (c_X9_atWord cx.1 r7 (9 : Int32)) (fun r8 => ?_)
      refine sn_if_eq (y := (m_X3_readAtom (d + 1))) (pc := 65) (tgt := 112) dX3_readAtom_65 (by decide) (fun _ => ?_) (fun _ => ?_)
      · refine sn_aload_n (y := (m_X3_readAtom (d + 1))) (pc := 112) dX3_readAtom_112 rfl ?_
        refine sn_getA (y := (m_X3_readAtom (d + 1))) (pc := 113) ca_3 rfl fk_X3_12 (fun _ _ _ => rfl) dX3_readAtom_113 (fun r9 => ?_)
        refine sn_bipush (y := (m_X3_readAtom (d + 1))) (pc := 116) dX3_readAtom_116 kc_bipush_10 ?_
        refine sn_invV (y := (m_X3_readAtom (d + 1))) (pc := 118) ca_7 (av := [vI (10 : Int32)]) (o := r9) (st := []) dX3_readAtom_118 lk_X3_98 im_X9_atWord se_X9_atWord rfl rfl rfl rfl ⟨by show 2 + 1 ≤ 5 + (d + 1); omega, by show 8 + (2 + 11) + 30 ≤ 108 + 60 * (d + 1); omega⟩ (c_X9_atWord cx.1 r9 (10 : Int32)) (fun r10 => ?_)
        refine sn_if_eq (y := (m_X3_readAtom (d + 1))) (pc := 121) (tgt := 159) dX3_readAtom_121 (by decide) (fun _ => ?_) (fun _ => ?_)
        · refine sn_aload_n (y := (m_X3_readAtom (d + 1))) (pc := 159) dX3_readAtom_159 rfl ?_
          refine sn_iload_n (y := (m_X3_readAtom (d + 1))) (pc := 160) dX3_readAtom_160 rfl ?_
          refine sn_aload_n (y := (m_X3_readAtom (d + 1))) (pc := 161) dX3_readAtom_161 rfl ?_
          refine sn_invV (y := (m_X3_readAtom (d + 1))) (pc := 162) ca_3 (av := [vI p1, vA r2]) (o := p0) (st := []) dX3_readAtom_162 (lk_X3_267 d) im_X3_readDeeper se_X3_readDeeper rfl rfl rfl rfl ⟨by show 5 + d + 1 ≤ 5 + (d + 1); omega, by show 8 + (7 + 11) + (108 + 60 * d) ≤ 108 + 60 * (d + 1); omega⟩ (hg_X3_readDeeper p0 p1 r2) (fun r11 => ?_)
          refine sn_istore_n (y := (m_X3_readAtom (d + 1))) (pc := 165) dX3_readAtom_165 rfl ?_
          exact sn_sub rfl (s_X3_readAtom_j166 hg_X3_readSum hg_X3_readProduct hg_X3_readAtom hg_X3_readDeeper p0 r2 r11)
        refine sn_aload_n (y := (m_X3_readAtom (d + 1))) (pc := 124) dX3_readAtom_124 rfl ?_
        refine sn_getA (y := (m_X3_readAtom (d + 1))) (pc := 125) ca_3 rfl fk_X3_12 (fun _ _ _ => rfl) dX3_readAtom_125 (fun r14 => ?_)
        refine sn_invV (y := (m_X3_readAtom (d + 1))) (pc := 128) ca_7 (av := []) (o := r14) (st := []) dX3_readAtom_128 lk_X3_92 im_X9_step se_X9_step rfl rfl rfl rfl ⟨by show 2 + 1 ≤ 5 + (d + 1); omega, by show 8 + (2 + 11) + 30 ≤ 108 + 60 * (d + 1); omega⟩ (c_X9_step cx.1 r14) (fun _ => ?_)
        refine sn_aload_n (y := (m_X3_readAtom (d + 1))) (pc := 131) dX3_readAtom_131 rfl ?_
        refine sn_invV (y := (m_X3_readAtom (d + 1))) (pc := 132) ca_3 (av := []) (o := p0) (st := []) dX3_readAtom_132 lk_X3_260 im_X3_takeTwoCharacters se_X3_takeTwoCharacters rfl rfl rfl rfl ⟨by show 4 + 1 ≤ 5 + (d + 1); omega, by show 8 + (2 + 11) + 72 ≤ 108 + 60 * (d + 1); omega⟩ (c_X3_takeTwoCharacters cx.1 p0) (fun r15 => ?_)
        refine sn_istore_n (y := (m_X3_readAtom (d + 1))) (pc := 135) dX3_readAtom_135 rfl ?_
        refine sn_aload_n (y := (m_X3_readAtom (d + 1))) (pc := 136) dX3_readAtom_136 rfl ?_
        refine sn_getA (y := (m_X3_readAtom (d + 1))) (pc := 137) ca_3 rfl fk_X3_46 (fun _ _ _ => rfl) dX3_readAtom_137 (fun r16 => ?_)
        refine sn_aload_n (y := (m_X3_readAtom (d + 1))) (pc := 140) dX3_readAtom_140 rfl ?_
        refine sn_getI (y := (m_X3_readAtom (d + 1))) (pc := 141) ca_3 rfl fk_X3_61 (fun _ _ _ => rfl) dX3_readAtom_141 (fun r17 => ?_)
        refine sn_aload_n (y := (m_X3_readAtom (d + 1))) (pc := 144) dX3_readAtom_144 rfl ?_
        refine sn_getI (y := (m_X3_readAtom (d + 1))) (pc := 145) ca_3 rfl fk_X3_58 (fun _ _ _ => rfl) dX3_readAtom_145 (fun r18 => ?_)
        refine sn_aload_n (y := (m_X3_readAtom (d + 1))) (pc := 148) dX3_readAtom_148 rfl ?_
        refine sn_getA (y := (m_X3_readAtom (d + 1))) (pc := 149) ca_3 rfl fk_X3_21 (fun _ _ _ => rfl) dX3_readAtom_149 (fun r19 => ?_)
        refine sn_aload_n (y := (m_X3_readAtom (d + 1))) (pc := 152) dX3_readAtom_152 rfl ?_
        refine sn_invV (y := (m_X3_readAtom (d + 1))) (pc := 153) ca_2 (av := [vI r17, vI r18, vA r19, vA r2]) (o := r16) (st := []) dX3_readAtom_153 lk_X3_263 im_X2_jacobiSum se_X2_jacobiSum rfl rfl rfl rfl ⟨by show 4 + 1 ≤ 5 + (d + 1); omega, by show 8 + (8 + 11) + 81 ≤ 108 + 60 * (d + 1); omega⟩ (c_X2_jacobiSum cx.1 r16 r17 r18 r19 r2) (fun _ => ?_)
        refine sn_goto (y := (m_X3_readAtom (d + 1))) (pc := 156) (tgt := 166) dX3_readAtom_156 (by decide) ?_
        exact sn_sub rfl (s_X3_readAtom_j166 hg_X3_readSum hg_X3_readProduct hg_X3_readAtom hg_X3_readDeeper p0 r2 r15)
      refine sn_aload_n (y := (m_X3_readAtom (d + 1))) (pc := 68) dX3_readAtom_68 rfl ?_
      refine sn_getA (y := (m_X3_readAtom (d + 1))) (pc := 69) ca_3 rfl fk_X3_12 (fun _ _ _ => rfl) dX3_readAtom_69 (fun r20 => ?_)
      refine sn_invV (y := (m_X3_readAtom (d + 1))) (pc := 72) ca_7 (av := []) (o := r20) (st := []) dX3_readAtom_72 lk_X3_92 im_X9_step se_X9_step rfl rfl rfl rfl ⟨by show 2 + 1 ≤ 5 + (d + 1); omega, by show 8 + (2 + 11) + 30 ≤ 108 + 60 * (d + 1); omega⟩ (c_X9_step cx.1 r20) (fun _ => ?_)
      refine sn_aload_n (y := (m_X3_readAtom (d + 1))) (pc := 75) dX3_readAtom_75 rfl ?_
      refine sn_aload_n (y := (m_X3_readAtom (d + 1))) (pc := 76) dX3_readAtom_76 rfl ?_
      refine sn_getA (y := (m_X3_readAtom (d + 1))) (pc := 77) ca_3 rfl fk_X3_12 (fun _ _ _ => rfl) dX3_readAtom_77 (fun r21 => ?_)
      refine sn_iconst (y := (m_X3_readAtom (d + 1))) (pc := 80) dX3_readAtom_80 kc_iconst_0 ?_
      refine sn_bipush (y := (m_X3_readAtom (d + 1))) (pc := 81) dX3_readAtom_81 kc_bipush_99 ?_
      refine sn_invV (y := (m_X3_readAtom (d + 1))) (pc := 83) ca_7 (av := [vI (0 : Int32), vI (99 : Int32)]) (o := r21) (st := [vA p0]) dX3_readAtom_83 lk_X3_185 im_X9_atWholeWithin se_X9_atWholeWithin rfl rfl rfl rfl ⟨by show 2 + 1 ≤ 5 + (d + 1); omega, by show 8 + (3 + 11) + 30 ≤ 108 + 60 * (d + 1); omega⟩ (c_X9_atWholeWithin cx.1 r21 (0 : Int32) (99 : Int32)) (fun r22 => ?_)
      refine sn_invV (y := (m_X3_readAtom (d + 1))) (pc := 86) ca_3 (av := [vI r22]) (o := p0) (st := []) dX3_readAtom_86 lk_X3_154 im_X3_takeWhole se_X3_takeWhole rfl rfl rfl rfl ⟨by show 3 + 1 ≤ 5 + (d + 1); omega, by show 8 + (2 + 11) + 51 ≤ 108 + 60 * (d + 1); omega⟩ (c_X3_takeWhole cx.1 p0 r22) (fun r23 => ?_)
      refine sn_istore_n (y := (m_X3_readAtom (d + 1))) (pc := 89) dX3_readAtom_89 rfl ?_
      refine sn_aload_n (y := (m_X3_readAtom (d + 1))) (pc := 90) dX3_readAtom_90 rfl ?_
      refine sn_getA (y := (m_X3_readAtom (d + 1))) (pc := 91) ca_3 rfl fk_X3_21 (fun _ _ _ => rfl) dX3_readAtom_91 (fun r24 => ?_)
      refine sn_aload_n (y := (m_X3_readAtom (d + 1))) (pc := 94) dX3_readAtom_94 rfl ?_
      refine sn_getI (y := (m_X3_readAtom (d + 1))) (pc := 95) ca_3 rfl fk_X3_58 (fun _ _ _ => rfl) dX3_readAtom_95 (fun r25 => ?_)
      refine sn_aload_n (y := (m_X3_readAtom (d + 1))) (pc := 98) dX3_readAtom_98 rfl ?_
      refine sn_aload_n (y := (m_X3_readAtom (d + 1))) (pc := 99) dX3_readAtom_99 rfl ?_
      refine sn_getA (y := (m_X3_readAtom (d + 1))) (pc := 100) ca_3 rfl fk_X3_46 (fun _ _ _ => rfl) dX3_readAtom_100 (fun r26 => ?_)
      refine sn_invV (y := (m_X3_readAtom (d + 1))) (pc := 103) ca_2 (av := []) (o := r26) (st := [vA r2, vI r25, vA r24]) dX3_readAtom_103 lk_X3_242 im_X2_order se_X2_order rfl rfl rfl rfl ⟨by show 2 + 1 ≤ 5 + (d + 1); omega, by show 8 + (1 + 11) + 30 ≤ 108 + 60 * (d + 1); omega⟩ (c_X2_order cx.1 r26) (fun r27 => ?_)
      refine sn_invV (y := (m_X3_readAtom (d + 1))) (pc := 106) ca_5 (av := [vI r25, vA r2, vI r27]) (o := r24) (st := []) dX3_readAtom_106 lk_X3_256 im_X5_powerOfZ se_X5_powerOfZ rfl rfl rfl rfl ⟨by show 4 + 1 ≤ 5 + (d + 1); omega, by show 8 + (4 + 11) + 81 ≤ 108 + 60 * (d + 1); omega⟩ (c_X5_powerOfZ cx.1 r24 r25 r2 r27) (fun _ => ?_)
      refine sn_goto (y := (m_X3_readAtom (d + 1))) (pc := 109) (tgt := 166) dX3_readAtom_109 (by decide) ?_
      exact sn_sub rfl (s_X3_readAtom_j166 hg_X3_readSum hg_X3_readProduct hg_X3_readAtom hg_X3_readDeeper p0 r2 r23)
    refine sn_aload_n (y := (m_X3_readAtom (d + 1))) (pc := 47) dX3_readAtom_47 rfl ?_
    refine sn_aload_n (y := (m_X3_readAtom (d + 1))) (pc := 48) dX3_readAtom_48 rfl ?_
    refine sn_invV (y := (m_X3_readAtom (d + 1))) (pc := 49) ca_3 (av := [vA r2]) (o := p0) (st := []) dX3_readAtom_49 lk_X3_253 im_X3_readLetName se_X3_readLetName rfl rfl rfl rfl ⟨by show 4 + 1 ≤ 5 + (d + 1); omega, by show 8 + (3 + 11) + 77 ≤ 108 + 60 * (d + 1); omega⟩ (c_X3_readLetName cx.1 p0 r2) (fun r28 => ?_)
    refine sn_istore_n (y := (m_X3_readAtom (d + 1))) (pc := 52) dX3_readAtom_52 rfl ?_
    refine sn_goto (y := (m_X3_readAtom (d + 1))) (pc := 53) (tgt := 166) dX3_readAtom_53 (by decide) ?_
    exact sn_sub rfl (s_X3_readAtom_j166 hg_X3_readSum hg_X3_readProduct hg_X3_readAtom hg_X3_readDeeper p0 r2 r28)
  refine sn_aload_n (y := (m_X3_readAtom (d + 1))) (pc := 19) dX3_readAtom_19 rfl ?_
  refine sn_iconst (y := (m_X3_readAtom (d + 1))) (pc := 20) dX3_readAtom_20 kc_iconst_1 ?_
  refine sn_invV (y := (m_X3_readAtom (d + 1))) (pc := 21) ca_3 (av := [vI (1 : Int32)]) (o := p0) (st := []) dX3_readAtom_21 lk_X3_154 im_X3_takeWhole se_X3_takeWhole rfl rfl rfl rfl ⟨by show 3 + 1 ≤ 5 + (d + 1); omega, by show 8 + (2 + 11) + 51 ≤ 108 + 60 * (d + 1); omega⟩ (c_X3_takeWhole cx.1 p0 (1 : Int32)) (fun r29 => ?_)
  refine sn_istore_n (y := (m_X3_readAtom (d + 1))) (pc := 24) dX3_readAtom_24 rfl ?_
  refine sn_aload_n (y := (m_X3_readAtom (d + 1))) (pc := 25) dX3_readAtom_25 rfl ?_
  refine sn_aload_n (y := (m_X3_readAtom (d + 1))) (pc := 26) dX3_readAtom_26 rfl ?_
  refine sn_getI (y := (m_X3_readAtom (d + 1))) (pc := 27) ca_3 rfl fk_X3_58 (fun _ _ _ => rfl) dX3_readAtom_27 (fun r30 => ?_)
  refine sn_i2l (y := (m_X3_readAtom (d + 1))) (pc := 30) dX3_readAtom_30 ?_
  refine sn_invS (y := (m_X3_readAtom (d + 1))) (pc := 31) (av := [vA r2, vJ (r30.toInt64)]) (st := []) dX3_readAtom_31 lk_X3_249 sw_X6_setWhole rfl rfl rfl ⟨by show 2 + 1 ≤ 5 + (d + 1); omega, by show 8 + (4 + 11) + 30 ≤ 108 + 60 * (d + 1); omega⟩ (c_X6_setWhole cx.1 r2 (r30.toInt64)) (fun _ => ?_)
  refine sn_goto (y := (m_X3_readAtom (d + 1))) (pc := 34) (tgt := 166) dX3_readAtom_34 (by decide) ?_
  exact sn_sub rfl (s_X3_readAtom_j166 hg_X3_readSum hg_X3_readProduct hg_X3_readAtom hg_X3_readDeeper p0 r2 r29)
/-! X3_readDeeper -/
def f_X3_readDeeper_j163 (g_X3_readSum : (Option Nat) → Int32 → Mo Int32) (g_X3_readProduct : (Option Nat) → Int32 → Mo Int32) (g_X3_readAtom : (Option Nat) → Int32 → Mo Int32) (g_X3_readDeeper : (Option Nat) → Int32 → (Option Nat) → Mo Int32) (x0 : (Option Nat)) (x1 : Int32) (x2 : (Option Nat)) (s0 : Int32) : Mo Int32 :=
  mBd (mCk 3 x0 (g_X3_readAtom x0 (x1 + (1 : Int32)))) (fun r8 => mBd (mGetA 3 1 x0) (fun r9 => mBd (mGetA 3 4 x0) (fun r10 => mBd (f_X6_rowAt r10 (x1 + (1 : Int32))) (fun r11 => mBd (mGetA 3 6 x0) (fun r12 => mBd (mCk 2 r12 (f_X2_order r12)) (fun r13 => mBd (mCk 5 r9 (f_X5_turnRow r9 r11 s0 x2 r13)) (fun _ => mRq (r8 = 0 ∨ r8 = 1) (mRt r8))))))))
set_option maxRecDepth 100000 in
theorem s_X3_readDeeper_j163 {cx : CX} {d : Nat} {g_X3_readSum : (Option Nat) → Int32 → Mo Int32} {g_X3_readProduct : (Option Nat) → Int32 → Mo Int32} {g_X3_readAtom : (Option Nat) → Int32 → Mo Int32} {g_X3_readDeeper : (Option Nat) → Int32 → (Option Nat) → Mo Int32} (hg_X3_readSum : ∀ (a0 : (Option Nat)) (a1 : Int32), Cn cx.1 (m_X3_readSum d) eI [vA a0, vI a1] (mCk 3 a0 (g_X3_readSum a0 a1))) (hg_X3_readProduct : ∀ (a0 : (Option Nat)) (a1 : Int32), Cn cx.1 (m_X3_readProduct d) eI [vA a0, vI a1] (mCk 3 a0 (g_X3_readProduct a0 a1))) (hg_X3_readAtom : ∀ (a0 : (Option Nat)) (a1 : Int32), Cn cx.1 (m_X3_readAtom d) eI [vA a0, vI a1] (mCk 3 a0 (g_X3_readAtom a0 a1))) (hg_X3_readDeeper : ∀ (a0 : (Option Nat)) (a1 : Int32) (a2 : (Option Nat)), Cn cx.1 (m_X3_readDeeper d) eI [vA a0, vI a1, vA a2] (mCk 3 a0 (g_X3_readDeeper a0 a1 a2))) (x0 : (Option Nat)) (x1 : Int32) (x2 : (Option Nat)) (s0 : Int32) : Sn cx (m_X3_readDeeper (d + 1)) eI 163 [(0, vA x0), (1, vI x1), (2, vA x2)] [vI s0] (f_X3_readDeeper_j163 g_X3_readSum g_X3_readProduct g_X3_readAtom g_X3_readDeeper x0 x1 x2 s0) := by
  refine sn_istore (y := (m_X3_readDeeper (d + 1))) (pc := 163) dX3_readDeeper_163 rfl ?_
  refine sn_aload_n (y := (m_X3_readDeeper (d + 1))) (pc := 165) dX3_readDeeper_165 rfl ?_
  refine sn_iload_n (y := (m_X3_readDeeper (d + 1))) (pc := 166) dX3_readDeeper_166 rfl ?_
  refine sn_iconst (y := (m_X3_readDeeper (d + 1))) (pc := 167) dX3_readDeeper_167 kc_iconst_1 ?_
  refine sn_iadd (y := (m_X3_readDeeper (d + 1))) (pc := 168) dX3_readDeeper_168 ?_
  refine sn_invV (y := (m_X3_readDeeper (d + 1))) (pc := 169) ca_3 (av := [vI (x1 + (1 : Int32))]) (o := x0) (st := []) dX3_readDeeper_169 (lk_X3_239 d) im_X3_readAtom se_X3_readAtom rfl rfl rfl rfl ⟨by show 5 + d + 1 ≤ 5 + (d + 1); omega, by show 8 + (4 + 11) + (108 + 60 * d) ≤ 108 + 60 * (d + 1); omega⟩ (hg_X3_readAtom x0 (x1 + (1 : Int32))) (fun r8 => ?_)
  refine sn_istore (y := (m_X3_readDeeper (d + 1))) (pc := 172) dX3_readDeeper_172 rfl ?_
  refine sn_aload_n (y := (m_X3_readDeeper (d + 1))) (pc := 174) dX3_readDeeper_174 rfl ?_
  refine sn_getA (y := (m_X3_readDeeper (d + 1))) (pc := 175) ca_3 rfl fk_X3_21 (fun _ _ _ => rfl) dX3_readDeeper_175 (fun r9 => ?_)
  refine sn_aload_n (y := (m_X3_readDeeper (d + 1))) (pc := 178) dX3_readDeeper_178 rfl ?_
  refine sn_getA (y := (m_X3_readDeeper (d + 1))) (pc := 179) ca_3 rfl fk_X3_33 (fun _ _ _ => rfl) dX3_readDeeper_179 (fun r10 => ?_)
  refine sn_iload_n (y := (m_X3_readDeeper (d + 1))) (pc := 182) dX3_readDeeper_182 rfl ?_
  refine sn_iconst (y := (m_X3_readDeeper (d + 1))) (pc := 183) dX3_readDeeper_183 kc_iconst_1 ?_
  refine sn_iadd (y := (m_X3_readDeeper (d + 1))) (pc := 184) dX3_readDeeper_184 ?_
  refine sn_invS (y := (m_X3_readDeeper (d + 1))) (pc := 185) (av := [vA r10, vI (x1 + (1 : Int32))]) (st := [vA r9]) dX3_readDeeper_185 lk_X3_212 sw_X6_rowAt rfl rfl rfl ⟨by show 2 + 1 ≤ 5 + (d + 1); omega, by show 8 + (2 + 11) + 30 ≤ 108 + 60 * (d + 1); omega⟩ (c_X6_rowAt cx.1 r10 (x1 + (1 : Int32))) (fun r11 => ?_)
  refine sn_iload (y := (m_X3_readDeeper (d + 1))) (pc := 188) dX3_readDeeper_188 rfl ?_
  refine sn_aload_n (y := (m_X3_readDeeper (d + 1))) (pc := 190) dX3_readDeeper_190 rfl ?_
  refine sn_aload_n (y := (m_X3_readDeeper (d + 1))) (pc := 191) dX3_readDeeper_191 rfl ?_
  refine sn_getA (y := (m_X3_readDeeper (d + 1))) (pc := 192) ca_3 rfl fk_X3_46 (fun _ _ _ => rfl) dX3_readDeeper_192 (fun r12 => ?_)
  refine sn_invV (y := (m_X3_readDeeper (d + 1))) (pc := 195) ca_2 (av := []) (o := r12) (st := [vA x2, vI s0, vA r11, vA r9]) dX3_readDeeper_195 lk_X3_242 im_X2_order se_X2_order rfl rfl rfl rfl ⟨by show 2 + 1 ≤ 5 + (d + 1); omega, by show 8 + (1 + 11) + 30 ≤ 108 + 60 * (d + 1); omega⟩ (c_X2_order cx.1 r12) (fun r13 => ?_)
  refine sn_invV (y := (m_X3_readDeeper (d + 1))) (pc := 198) ca_5 (av := [vA r11, vI s0, vA x2, vI r13]) (o := r9) (st := []) dX3_readDeeper_198 lk_X3_285 im_X5_turnRow se_X5_turnRow rfl rfl rfl rfl ⟨by show 4 + 1 ≤ 5 + (d + 1); omega, by show 8 + (7 + 11) + 81 ≤ 108 + 60 * (d + 1); omega⟩ (c_X5_turnRow cx.1 r9 r11 s0 x2 r13) (fun _ => ?_)
  refine sn_iload (y := (m_X3_readDeeper (d + 1))) (pc := 201) dX3_readDeeper_201 rfl ?_
  exact sn_zreturn rfl dX3_readDeeper_203
def f_X3_readDeeper_j142 (g_X3_readSum : (Option Nat) → Int32 → Mo Int32) (g_X3_readProduct : (Option Nat) → Int32 → Mo Int32) (g_X3_readAtom : (Option Nat) → Int32 → Mo Int32) (g_X3_readDeeper : (Option Nat) → Int32 → (Option Nat) → Mo Int32) (x0 : (Option Nat)) (x1 : Int32) (x2 : (Option Nat)) (x4 : Int32) : Mo Int32 :=
  (if x4 = 0 then mBd (mGetA 3 6 x0) (fun r6 => mBd (mCk 2 r6 (f_X2_order r6)) (fun r7 => f_X3_readDeeper_j163 g_X3_readSum g_X3_readProduct g_X3_readAtom g_X3_readDeeper x0 x1 x2 (r7 - (1 : Int32)))) else mBd (mGetI 3 9 x0) (fun r14 => f_X3_readDeeper_j163 g_X3_readSum g_X3_readProduct g_X3_readAtom g_X3_readDeeper x0 x1 x2 r14))
set_option maxRecDepth 100000 in
theorem s_X3_readDeeper_j142 {cx : CX} {d : Nat} {g_X3_readSum : (Option Nat) → Int32 → Mo Int32} {g_X3_readProduct : (Option Nat) → Int32 → Mo Int32} {g_X3_readAtom : (Option Nat) → Int32 → Mo Int32} {g_X3_readDeeper : (Option Nat) → Int32 → (Option Nat) → Mo Int32} (hg_X3_readSum : ∀ (a0 : (Option Nat)) (a1 : Int32), Cn cx.1 (m_X3_readSum d) eI [vA a0, vI a1] (mCk 3 a0 (g_X3_readSum a0 a1))) (hg_X3_readProduct : ∀ (a0 : (Option Nat)) (a1 : Int32), Cn cx.1 (m_X3_readProduct d) eI [vA a0, vI a1] (mCk 3 a0 (g_X3_readProduct a0 a1))) (hg_X3_readAtom : ∀ (a0 : (Option Nat)) (a1 : Int32), Cn cx.1 (m_X3_readAtom d) eI [vA a0, vI a1] (mCk 3 a0 (g_X3_readAtom a0 a1))) (hg_X3_readDeeper : ∀ (a0 : (Option Nat)) (a1 : Int32) (a2 : (Option Nat)), Cn cx.1 (m_X3_readDeeper d) eI [vA a0, vI a1, vA a2] (mCk 3 a0 (g_X3_readDeeper a0 a1 a2))) (x0 : (Option Nat)) (x1 : Int32) (x2 : (Option Nat)) (x4 : Int32) : Sn cx (m_X3_readDeeper (d + 1)) eI 142 [(0, vA x0), (1, vI x1), (2, vA x2), (4, vI x4)] [] (f_X3_readDeeper_j142 g_X3_readSum g_X3_readProduct g_X3_readAtom g_X3_readDeeper x0 x1 x2 x4) := by
  refine sn_iload (y := (m_X3_readDeeper (d + 1))) (pc := 142) dX3_readDeeper_142 rfl ?_
  refine sn_if_eq (y := (m_X3_readDeeper (d + 1))) (pc := 144) (tgt := 154) dX3_readDeeper_144 (by decide) (fun _ => ?_) (fun _ => ?_)
  · refine sn_aload_n (y := (m_X3_readDeeper (d + 1))) (pc := 154) dX3_readDeeper_154 rfl ?_
    refine sn_getA (y := (m_X3_readDeeper (d + 1))) (pc := 155) ca_3 rfl fk_X3_46 (fun _ _ _ => rfl) dX3_readDeeper_155 (fun r6 => ?_)
    refine sn_invV (y := (m_X3_readDeeper (d + 1))) (pc := 158) ca_2 (av := []) (o := r6) (st := []) dX3_readDeeper_158 lk_X3_242 im_X2_order se_X2_order rfl rfl rfl rfl ⟨by show 2 + 1 ≤ 5 + (d + 1); omega, by show 8 + (1 + 11) + 30 ≤ 108 + 60 * (d + 1); omega⟩ (c_X2_order cx.1 r6) (fun r7 => ?_)
    refine sn_iconst (y := (m_X3_readDeeper (d + 1))) (pc := 161) dX3_readDeeper_161 kc_iconst_1 ?_
    refine sn_isub (y := (m_X3_readDeeper (d + 1))) (pc := 162) dX3_readDeeper_162 ?_
    exact sn_sub rfl (s_X3_readDeeper_j163 hg_X3_readSum hg_X3_readProduct hg_X3_readAtom hg_X3_readDeeper x0 x1 x2 (r7 - (1 : Int32)))
  refine sn_aload_n (y := (m_X3_readDeeper (d + 1))) (pc := 147) dX3_readDeeper_147 rfl ?_
  refine sn_getI (y := (m_X3_readDeeper (d + 1))) (pc := 148) ca_3 rfl fk_X3_58 (fun _ _ _ => rfl) dX3_readDeeper_148 (fun r14 => ?_)
  refine sn_goto (y := (m_X3_readDeeper (d + 1))) (pc := 151) (tgt := 163) dX3_readDeeper_151 (by decide) ?_
  exact sn_sub rfl (s_X3_readDeeper_j163 hg_X3_readSum hg_X3_readProduct hg_X3_readAtom hg_X3_readDeeper x0 x1 x2 r14)
def f_X3_readDeeper_j95 (g_X3_readSum : (Option Nat) → Int32 → Mo Int32) (g_X3_readProduct : (Option Nat) → Int32 → Mo Int32) (g_X3_readAtom : (Option Nat) → Int32 → Mo Int32) (g_X3_readDeeper : (Option Nat) → Int32 → (Option Nat) → Mo Int32) (x0 : (Option Nat)) (x1 : Int32) (x2 : (Option Nat)) (s0 : Int32) : Mo Int32 :=
  mBd (mGetA 3 2 x0) (fun r21 => mBd (f_X6_rowAt r21 (x1 + (1 : Int32))) (fun r22 => mBd (f_X6_copy r22 x2) (fun _ => mRq (s0 = 0 ∨ s0 = 1) (mRt s0))))
set_option maxRecDepth 100000 in
theorem s_X3_readDeeper_j95 {cx : CX} {d : Nat} {g_X3_readSum : (Option Nat) → Int32 → Mo Int32} {g_X3_readProduct : (Option Nat) → Int32 → Mo Int32} {g_X3_readAtom : (Option Nat) → Int32 → Mo Int32} {g_X3_readDeeper : (Option Nat) → Int32 → (Option Nat) → Mo Int32} (hg_X3_readSum : ∀ (a0 : (Option Nat)) (a1 : Int32), Cn cx.1 (m_X3_readSum d) eI [vA a0, vI a1] (mCk 3 a0 (g_X3_readSum a0 a1))) (hg_X3_readProduct : ∀ (a0 : (Option Nat)) (a1 : Int32), Cn cx.1 (m_X3_readProduct d) eI [vA a0, vI a1] (mCk 3 a0 (g_X3_readProduct a0 a1))) (hg_X3_readAtom : ∀ (a0 : (Option Nat)) (a1 : Int32), Cn cx.1 (m_X3_readAtom d) eI [vA a0, vI a1] (mCk 3 a0 (g_X3_readAtom a0 a1))) (hg_X3_readDeeper : ∀ (a0 : (Option Nat)) (a1 : Int32) (a2 : (Option Nat)), Cn cx.1 (m_X3_readDeeper d) eI [vA a0, vI a1, vA a2] (mCk 3 a0 (g_X3_readDeeper a0 a1 a2))) (x0 : (Option Nat)) (x1 : Int32) (x2 : (Option Nat)) (s0 : Int32) : Sn cx (m_X3_readDeeper (d + 1)) eI 95 [(0, vA x0), (1, vI x1), (2, vA x2)] [vI s0] (f_X3_readDeeper_j95 g_X3_readSum g_X3_readProduct g_X3_readAtom g_X3_readDeeper x0 x1 x2 s0) := by
  refine sn_istore (y := (m_X3_readDeeper (d + 1))) (pc := 95) dX3_readDeeper_95 rfl ?_
  refine sn_aload_n (y := (m_X3_readDeeper (d + 1))) (pc := 97) dX3_readDeeper_97 rfl ?_
  refine sn_getA (y := (m_X3_readDeeper (d + 1))) (pc := 98) ca_3 rfl fk_X3_27 (fun _ _ _ => rfl) dX3_readDeeper_98 (fun r21 => ?_)
  refine sn_iload_n (y := (m_X3_readDeeper (d + 1))) (pc := 101) dX3_readDeeper_101 rfl ?_
  refine sn_iconst (y := (m_X3_readDeeper (d + 1))) (pc := 102) dX3_readDeeper_102 kc_iconst_1 ?_
  refine sn_iadd (y := (m_X3_readDeeper (d + 1))) (pc := 103) dX3_readDeeper_103 ?_
  refine sn_invS (y := (m_X3_readDeeper (d + 1))) (pc := 104) (av := [vA r21, vI (x1 + (1 : Int32))]) (st := []) dX3_readDeeper_104 lk_X3_212 sw_X6_rowAt rfl rfl rfl ⟨by show 2 + 1 ≤ 5 + (d + 1); omega, by show 8 + (2 + 11) + 30 ≤ 108 + 60 * (d + 1); omega⟩ (c_X6_rowAt cx.1 r21 (x1 + (1 : Int32))) (fun r22 => ?_)
  refine sn_aload_n (y := (m_X3_readDeeper (d + 1))) (pc := 107) dX3_readDeeper_107 rfl ?_
  refine sn_invS (y := (m_X3_readDeeper (d + 1))) (pc := 108) (av := [vA r22, vA x2]) (st := []) dX3_readDeeper_108 lk_X3_225 sw_X6_copy rfl rfl rfl ⟨by show 2 + 1 ≤ 5 + (d + 1); omega, by show 8 + (3 + 11) + 30 ≤ 108 + 60 * (d + 1); omega⟩ (c_X6_copy cx.1 r22 x2) (fun _ => ?_)
  refine sn_iload (y := (m_X3_readDeeper (d + 1))) (pc := 111) dX3_readDeeper_111 rfl ?_
  exact sn_zreturn rfl dX3_readDeeper_113
def f_X3_readDeeper_j94 (g_X3_readSum : (Option Nat) → Int32 → Mo Int32) (g_X3_readProduct : (Option Nat) → Int32 → Mo Int32) (g_X3_readAtom : (Option Nat) → Int32 → Mo Int32) (g_X3_readDeeper : (Option Nat) → Int32 → (Option Nat) → Mo Int32) (x0 : (Option Nat)) (x1 : Int32) (x2 : (Option Nat)) : Mo Int32 :=
  f_X3_readDeeper_j95 g_X3_readSum g_X3_readProduct g_X3_readAtom g_X3_readDeeper x0 x1 x2 (0 : Int32)
set_option maxRecDepth 100000 in
theorem s_X3_readDeeper_j94 {cx : CX} {d : Nat} {g_X3_readSum : (Option Nat) → Int32 → Mo Int32} {g_X3_readProduct : (Option Nat) → Int32 → Mo Int32} {g_X3_readAtom : (Option Nat) → Int32 → Mo Int32} {g_X3_readDeeper : (Option Nat) → Int32 → (Option Nat) → Mo Int32} (hg_X3_readSum : ∀ (a0 : (Option Nat)) (a1 : Int32), Cn cx.1 (m_X3_readSum d) eI [vA a0, vI a1] (mCk 3 a0 (g_X3_readSum a0 a1))) (hg_X3_readProduct : ∀ (a0 : (Option Nat)) (a1 : Int32), Cn cx.1 (m_X3_readProduct d) eI [vA a0, vI a1] (mCk 3 a0 (g_X3_readProduct a0 a1))) (hg_X3_readAtom : ∀ (a0 : (Option Nat)) (a1 : Int32), Cn cx.1 (m_X3_readAtom d) eI [vA a0, vI a1] (mCk 3 a0 (g_X3_readAtom a0 a1))) (hg_X3_readDeeper : ∀ (a0 : (Option Nat)) (a1 : Int32) (a2 : (Option Nat)), Cn cx.1 (m_X3_readDeeper d) eI [vA a0, vI a1, vA a2] (mCk 3 a0 (g_X3_readDeeper a0 a1 a2))) (x0 : (Option Nat)) (x1 : Int32) (x2 : (Option Nat)) : Sn cx (m_X3_readDeeper (d + 1)) eI 94 [(0, vA x0), (1, vI x1), (2, vA x2)] [] (f_X3_readDeeper_j94 g_X3_readSum g_X3_readProduct g_X3_readAtom g_X3_readDeeper x0 x1 x2) := by
  refine sn_iconst (y := (m_X3_readDeeper (d + 1))) (pc := 94) dX3_readDeeper_94 kc_iconst_0 ?_
  exact sn_sub rfl (s_X3_readDeeper_j95 hg_X3_readSum hg_X3_readProduct hg_X3_readAtom hg_X3_readDeeper x0 x1 x2 (0 : Int32))
def f_X3_readDeeper_j48 (g_X3_readSum : (Option Nat) → Int32 → Mo Int32) (g_X3_readProduct : (Option Nat) → Int32 → Mo Int32) (g_X3_readAtom : (Option Nat) → Int32 → Mo Int32) (g_X3_readDeeper : (Option Nat) → Int32 → (Option Nat) → Mo Int32) (x0 : (Option Nat)) (x1 : Int32) (x2 : (Option Nat)) (x3 : Int32) (x4 : Int32) : Mo Int32 :=
  (if x1 < (8 : Int32) then mBd (mGetA 3 0 x0) (fun r5 => mBd (mCk 7 r5 (f_X9_step r5)) (fun _ => (if x3 = 0 then (if x4 = 0 then f_X3_readDeeper_j142 g_X3_readSum g_X3_readProduct g_X3_readAtom g_X3_readDeeper x0 x1 x2 x4 else mBd (mGetA 3 6 x0) (fun r15 => mBd (mGetA 3 0 x0) (fun r16 => mBd (mCk 7 r16 (f_X9_wholeNow r16)) (fun r17 => mBd (mCk 2 r15 (f_X2_hasTurn r15 r17)) (fun r18 => mBd (mCk 3 x0 (f_X3_takeWhole x0 r18)) (fun r19 => (if ¬ r19 = 0 then f_X3_readDeeper_j142 g_X3_readSum g_X3_readProduct g_X3_readAtom g_X3_readDeeper x0 x1 x2 x4 else mRt (0 : Int32)))))))) else mBd (mCk 3 x0 (g_X3_readSum x0 (x1 + (1 : Int32)))) (fun r20 => (if r20 = 0 then f_X3_readDeeper_j94 g_X3_readSum g_X3_readProduct g_X3_readAtom g_X3_readDeeper x0 x1 x2 else mBd (mCk 3 x0 (f_X3_takeSign x0 (41 : Int32))) (fun r23 => (if r23 = 0 then f_X3_readDeeper_j94 g_X3_readSum g_X3_readProduct g_X3_readAtom g_X3_readDeeper x0 x1 x2 else f_X3_readDeeper_j95 g_X3_readSum g_X3_readProduct g_X3_readAtom g_X3_readDeeper x0 x1 x2 (1 : Int32)))))))) else mBd (mCk 3 x0 (f_X3_blame x0 (5 : Int32))) (fun r24 => mRq (r24 = 0 ∨ r24 = 1) (mRt r24)))
set_option maxRecDepth 100000 in
theorem s_X3_readDeeper_j48 {cx : CX} {d : Nat} {g_X3_readSum : (Option Nat) → Int32 → Mo Int32} {g_X3_readProduct : (Option Nat) → Int32 → Mo Int32} {g_X3_readAtom : (Option Nat) → Int32 → Mo Int32} {g_X3_readDeeper : (Option Nat) → Int32 → (Option Nat) → Mo Int32} (hg_X3_readSum : ∀ (a0 : (Option Nat)) (a1 : Int32), Cn cx.1 (m_X3_readSum d) eI [vA a0, vI a1] (mCk 3 a0 (g_X3_readSum a0 a1))) (hg_X3_readProduct : ∀ (a0 : (Option Nat)) (a1 : Int32), Cn cx.1 (m_X3_readProduct d) eI [vA a0, vI a1] (mCk 3 a0 (g_X3_readProduct a0 a1))) (hg_X3_readAtom : ∀ (a0 : (Option Nat)) (a1 : Int32), Cn cx.1 (m_X3_readAtom d) eI [vA a0, vI a1] (mCk 3 a0 (g_X3_readAtom a0 a1))) (hg_X3_readDeeper : ∀ (a0 : (Option Nat)) (a1 : Int32) (a2 : (Option Nat)), Cn cx.1 (m_X3_readDeeper d) eI [vA a0, vI a1, vA a2] (mCk 3 a0 (g_X3_readDeeper a0 a1 a2))) (x0 : (Option Nat)) (x1 : Int32) (x2 : (Option Nat)) (x3 : Int32) (x4 : Int32) : Sn cx (m_X3_readDeeper (d + 1)) eI 48 [(0, vA x0), (1, vI x1), (2, vA x2), (3, vI x3), (4, vI x4)] [] (f_X3_readDeeper_j48 g_X3_readSum g_X3_readProduct g_X3_readAtom g_X3_readDeeper x0 x1 x2 x3 x4) := by
  refine sn_iload_n (y := (m_X3_readDeeper (d + 1))) (pc := 48) dX3_readDeeper_48 rfl ?_
  refine sn_bipush (y := (m_X3_readDeeper (d + 1))) (pc := 49) dX3_readDeeper_49 kc_bipush_8 ?_
  refine sn_icmp_lt (y := (m_X3_readDeeper (d + 1))) (pc := 51) (tgt := 60) dX3_readDeeper_51 (by decide) (fun _ => ?_) (fun _ => ?_)
  · refine sn_aload_n (y := (m_X3_readDeeper (d + 1))) (pc := 60) dX3_readDeeper_60 rfl ?_
    refine sn_getA (y := (m_X3_readDeeper (d + 1))) (pc := 61) ca_3 rfl fk_X3_12 (fun _ _ _ => rfl) dX3_readDeeper_61 (fun r5 => ?_)
    refine sn_invV (y := (m_X3_readDeeper (d + 1))) (pc := 64) ca_7 (av := []) (o := r5) (st := []) dX3_readDeeper_64 lk_X3_92 im_X9_step se_X9_step rfl rfl rfl rfl ⟨by show 2 + 1 ≤ 5 + (d + 1); omega, by show 8 + (2 + 11) + 30 ≤ 108 + 60 * (d + 1); omega⟩ (c_X9_step cx.1 r5) (fun _ => ?_)
    refine sn_iload_n (y := (m_X3_readDeeper (d + 1))) (pc := 67) dX3_readDeeper_67 rfl ?_
    refine sn_if_eq (y := (m_X3_readDeeper (d + 1))) (pc := 68) (tgt := 114) dX3_readDeeper_68 (by decide) (fun _ => ?_) (fun _ => ?_)
    · refine sn_iload (y := (m_X3_readDeeper (d + 1))) (pc := 114) dX3_readDeeper_114 rfl ?_
      refine sn_if_eq (y := (m_X3_readDeeper (d + 1))) (pc := 116) (tgt := 142) dX3_readDeeper_116 (by decide) (fun _ => ?_) (fun _ => ?_)
      · exact sn_sub rfl (s_X3_readDeeper_j142 hg_X3_readSum hg_X3_readProduct hg_X3_readAtom hg_X3_readDeeper x0 x1 x2 x4)
      refine sn_aload_n (y := (m_X3_readDeeper (d + 1))) (pc := 119) dX3_readDeeper_119 rfl ?_
      refine sn_aload_n (y := (m_X3_readDeeper (d + 1))) (pc := 120) dX3_readDeeper_120 rfl ?_
      refine sn_getA (y := (m_X3_readDeeper (d + 1))) (pc := 121) ca_3 rfl fk_X3_46 (fun _ _ _ => rfl) dX3_readDeeper_121 (fun r15 => ?_)
      refine sn_aload_n (y := (m_X3_readDeeper (d + 1))) (pc := 124) dX3_readDeeper_124 rfl ?_
      refine sn_getA (y := (m_X3_readDeeper (d + 1))) (pc := 125) ca_3 rfl fk_X3_12 (fun _ _ _ => rfl) dX3_readDeeper_125 (fun r16 => ?_)
      refine sn_invV (y := (m_X3_readDeeper (d + 1))) (pc := 128) ca_7 (av := []) (o := r16) (st := [vA r15, vA x0]) dX3_readDeeper_128 lk_X3_121 im_X9_wholeNow se_X9_wholeNow rfl rfl rfl rfl ⟨by show 2 + 1 ≤ 5 + (d + 1); omega, by show 8 + (1 + 11) + 30 ≤ 108 + 60 * (d + 1); omega⟩ (c_X9_wholeNow cx.1 r16) (fun r17 => ?_)
      refine sn_invV (y := (m_X3_readDeeper (d + 1))) (pc := 131) ca_2 (av := [vI r17]) (o := r15) (st := [vA x0]) dX3_readDeeper_131 lk_X3_282 im_X2_hasTurn se_X2_hasTurn rfl rfl rfl rfl ⟨by show 3 + 1 ≤ 5 + (d + 1); omega, by show 8 + (2 + 11) + 52 ≤ 108 + 60 * (d + 1); omega⟩ (c_X2_hasTurn cx.1 r15 r17) (fun r18 => ?_)
      refine sn_invV (y := (m_X3_readDeeper (d + 1))) (pc := 134) ca_3 (av := [vI r18]) (o := x0) (st := []) dX3_readDeeper_134 lk_X3_154 im_X3_takeWhole se_X3_takeWhole rfl rfl rfl rfl ⟨by show 3 + 1 ≤ 5 + (d + 1); omega, by show 8 + (2 + 11) + 51 ≤ 108 + 60 * (d + 1); omega⟩ (c_X3_takeWhole cx.1 x0 r18) (fun r19 => ?_)
      refine sn_if_ne (y := (m_X3_readDeeper (d + 1))) (pc := 137) (tgt := 142) dX3_readDeeper_137 (by decide) (fun _ => ?_) (fun _ => ?_)
      · exact sn_sub rfl (s_X3_readDeeper_j142 hg_X3_readSum hg_X3_readProduct hg_X3_readAtom hg_X3_readDeeper x0 x1 x2 x4)
      refine sn_iconst (y := (m_X3_readDeeper (d + 1))) (pc := 140) dX3_readDeeper_140 kc_iconst_0 ?_
      exact sn_zreturnC (by decide) rfl dX3_readDeeper_141
    refine sn_aload_n (y := (m_X3_readDeeper (d + 1))) (pc := 71) dX3_readDeeper_71 rfl ?_
    refine sn_iload_n (y := (m_X3_readDeeper (d + 1))) (pc := 72) dX3_readDeeper_72 rfl ?_
    refine sn_iconst (y := (m_X3_readDeeper (d + 1))) (pc := 73) dX3_readDeeper_73 kc_iconst_1 ?_
    refine sn_iadd (y := (m_X3_readDeeper (d + 1))) (pc := 74) dX3_readDeeper_74 ?_
    refine sn_invV (y := (m_X3_readDeeper (d + 1))) (pc := 75) ca_3 (av := [vI (x1 + (1 : Int32))]) (o := x0) (st := []) dX3_readDeeper_75 (lk_X3_209 d) im_X3_readSum se_X3_readSum rfl rfl rfl rfl ⟨by show 5 + d + 1 ≤ 5 + (d + 1); omega, by show 8 + (6 + 11) + (108 + 60 * d) ≤ 108 + 60 * (d + 1); omega⟩ (hg_X3_readSum x0 (x1 + (1 : Int32))) (fun r20 => ?_)
    refine sn_if_eq (y := (m_X3_readDeeper (d + 1))) (pc := 78) (tgt := 94) dX3_readDeeper_78 (by decide) (fun _ => ?_) (fun _ => ?_)
    · exact sn_sub rfl (s_X3_readDeeper_j94 hg_X3_readSum hg_X3_readProduct hg_X3_readAtom hg_X3_readDeeper x0 x1 x2)
    refine sn_aload_n (y := (m_X3_readDeeper (d + 1))) (pc := 81) dX3_readDeeper_81 rfl ?_
    refine sn_bipush (y := (m_X3_readDeeper (d + 1))) (pc := 82) dX3_readDeeper_82 kc_bipush_41 ?_
    refine sn_invV (y := (m_X3_readDeeper (d + 1))) (pc := 84) ca_3 (av := [vI (41 : Int32)]) (o := x0) (st := []) dX3_readDeeper_84 lk_X3_279 im_X3_takeSign se_X3_takeSign rfl rfl rfl rfl ⟨by show 3 + 1 ≤ 5 + (d + 1); omega, by show 8 + (2 + 11) + 51 ≤ 108 + 60 * (d + 1); omega⟩ (c_X3_takeSign cx.1 x0 (41 : Int32)) (fun r23 => ?_)
    refine sn_if_eq (y := (m_X3_readDeeper (d + 1))) (pc := 87) (tgt := 94) dX3_readDeeper_87 (by decide) (fun _ => ?_) (fun _ => ?_)
    · exact sn_sub rfl (s_X3_readDeeper_j94 hg_X3_readSum hg_X3_readProduct hg_X3_readAtom hg_X3_readDeeper x0 x1 x2)
    refine sn_iconst (y := (m_X3_readDeeper (d + 1))) (pc := 90) dX3_readDeeper_90 kc_iconst_1 ?_
    refine sn_goto (y := (m_X3_readDeeper (d + 1))) (pc := 91) (tgt := 95) dX3_readDeeper_91 (by decide) ?_
    exact sn_sub rfl (s_X3_readDeeper_j95 hg_X3_readSum hg_X3_readProduct hg_X3_readAtom hg_X3_readDeeper x0 x1 x2 (1 : Int32))
  refine sn_aload_n (y := (m_X3_readDeeper (d + 1))) (pc := 54) dX3_readDeeper_54 rfl ?_
  refine sn_iconst (y := (m_X3_readDeeper (d + 1))) (pc := 55) dX3_readDeeper_55 kc_iconst_5 ?_
  refine sn_invV (y := (m_X3_readDeeper (d + 1))) (pc := 56) ca_3 (av := [vI (5 : Int32)]) (o := x0) (st := []) dX3_readDeeper_56 lk_X3_111 im_X3_blame se_X3_blame rfl rfl rfl rfl ⟨by show 2 + 1 ≤ 5 + (d + 1); omega, by show 8 + (2 + 11) + 30 ≤ 108 + 60 * (d + 1); omega⟩ (c_X3_blame cx.1 x0 (5 : Int32)) (fun r24 => ?_)
  exact sn_zreturn rfl dX3_readDeeper_59
def fb_X3_readDeeper (g_X3_readSum : (Option Nat) → Int32 → Mo Int32) (g_X3_readProduct : (Option Nat) → Int32 → Mo Int32) (g_X3_readAtom : (Option Nat) → Int32 → Mo Int32) (g_X3_readDeeper : (Option Nat) → Int32 → (Option Nat) → Mo Int32) (p0 : (Option Nat)) (p1 : Int32) (p2 : (Option Nat)) : Mo Int32 :=
  mBd (mGetA 3 0 p0) (fun r1 => mBd (mCk 7 r1 (f_X9_atSign r1 (40 : Int32))) (fun r2 => mBd (mGetA 3 0 p0) (fun r3 => mBd (mCk 7 r3 (f_X9_atWord r3 (12 : Int32))) (fun r4 => (if ¬ r2 = 0 then f_X3_readDeeper_j48 g_X3_readSum g_X3_readProduct g_X3_readAtom g_X3_readDeeper p0 p1 p2 r2 r4 else (if ¬ r4 = 0 then f_X3_readDeeper_j48 g_X3_readSum g_X3_readProduct g_X3_readAtom g_X3_readDeeper p0 p1 p2 r2 r4 else mBd (mGetA 3 0 p0) (fun r25 => mBd (mCk 7 r25 (f_X9_atWord r25 (11 : Int32))) (fun r26 => (if ¬ r26 = 0 then f_X3_readDeeper_j48 g_X3_readSum g_X3_readProduct g_X3_readAtom g_X3_readDeeper p0 p1 p2 r2 r4 else mBd (mCk 3 p0 (f_X3_blame p0 (1 : Int32))) (fun r27 => mRq (r27 = 0 ∨ r27 = 1) (mRt r27)))))))))))
set_option maxRecDepth 100000 in
theorem s_X3_readDeeper {cx : CX} {d : Nat} {g_X3_readSum : (Option Nat) → Int32 → Mo Int32} {g_X3_readProduct : (Option Nat) → Int32 → Mo Int32} {g_X3_readAtom : (Option Nat) → Int32 → Mo Int32} {g_X3_readDeeper : (Option Nat) → Int32 → (Option Nat) → Mo Int32} (hg_X3_readSum : ∀ (a0 : (Option Nat)) (a1 : Int32), Cn cx.1 (m_X3_readSum d) eI [vA a0, vI a1] (mCk 3 a0 (g_X3_readSum a0 a1))) (hg_X3_readProduct : ∀ (a0 : (Option Nat)) (a1 : Int32), Cn cx.1 (m_X3_readProduct d) eI [vA a0, vI a1] (mCk 3 a0 (g_X3_readProduct a0 a1))) (hg_X3_readAtom : ∀ (a0 : (Option Nat)) (a1 : Int32), Cn cx.1 (m_X3_readAtom d) eI [vA a0, vI a1] (mCk 3 a0 (g_X3_readAtom a0 a1))) (hg_X3_readDeeper : ∀ (a0 : (Option Nat)) (a1 : Int32) (a2 : (Option Nat)), Cn cx.1 (m_X3_readDeeper d) eI [vA a0, vI a1, vA a2] (mCk 3 a0 (g_X3_readDeeper a0 a1 a2))) (p0 : (Option Nat)) (p1 : Int32) (p2 : (Option Nat)) : Sn cx (m_X3_readDeeper (d + 1)) eI 0 [(0, vA p0), (1, vI p1), (2, vA p2)] [] (fb_X3_readDeeper g_X3_readSum g_X3_readProduct g_X3_readAtom g_X3_readDeeper p0 p1 p2) := by
  refine sn_aload_n (y := (m_X3_readDeeper (d + 1))) (pc := 0) dX3_readDeeper_0 rfl ?_
  refine sn_getA (y := (m_X3_readDeeper (d + 1))) (pc := 1) ca_3 rfl fk_X3_12 (fun _ _ _ => rfl) dX3_readDeeper_1 (fun r1 => ?_)
  refine sn_bipush (y := (m_X3_readDeeper (d + 1))) (pc := 4) dX3_readDeeper_4 kc_bipush_40 ?_
  refine sn_invV (y := (m_X3_readDeeper (d + 1))) (pc := 6) ca_7 (av := [vI (40 : Int32)]) (o := r1) (st := []) dX3_readDeeper_6 lk_X3_114 im_X9_atSign se_X9_atSign rfl rfl rfl rfl ⟨by show 2 + 1 ≤ 5 + (d + 1); omega, by show 8 + (2 + 11) + 30 ≤ 108 + 60 * (d + 1); omega⟩ (c_X9_atSign cx.1 r1 (40 : Int32)) (fun r2 => ?_)
  refine sn_istore_n (y := (m_X3_readDeeper (d + 1))) (pc := 9) dX3_readDeeper_9 rfl ?_
  refine sn_aload_n (y := (m_X3_readDeeper (d + 1))) (pc := 10) dX3_readDeeper_10 rfl ?_
  refine sn_getA (y := (m_X3_readDeeper (d + 1))) (pc := 11) ca_3 rfl fk_X3_12 (fun _ _ _ => rfl) dX3_readDeeper_11 (fun r3 => ?_)
  refine sn_bipush (y := (m_X3_readDeeper (d + 1))) (pc := 14) dX3_readDeeper_14 kc_bipush_12 ?_
  refine sn_invV (y := (m_X3_readDeeper (d + 1))) (pc := 16) ca_7 (av := [vI (12 : Int32)]) (o := r3) (st := []) dX3_readDeeper_16 lk_X3_98 im_X9_atWord se_X9_atWord rfl rfl rfl rfl ⟨by show 2 + 1 ≤ 5 + (d + 1); omega, by show 8 + (2 + 11) + 30 ≤ 108 + 60 * (d + 1); omega⟩ (c_X9_atWord cx.1 r3 (12 : Int32)) (fun r4 => ?_)
  refine sn_istore (y := (m_X3_readDeeper (d + 1))) (pc := 19) dX3_readDeeper_19 rfl ?_
  refine sn_iload_n (y := (m_X3_readDeeper (d + 1))) (pc := 21) dX3_readDeeper_21 rfl ?_
  refine sn_if_ne (y := (m_X3_readDeeper (d + 1))) (pc := 22) (tgt := 48) dX3_readDeeper_22 (by decide) (fun _ => ?_) (fun _ => ?_)
  · exact sn_sub rfl (s_X3_readDeeper_j48 hg_X3_readSum hg_X3_readProduct hg_X3_readAtom hg_X3_readDeeper p0 p1 p2 r2 r4)
  refine sn_iload (y := (m_X3_readDeeper (d + 1))) (pc := 25) dX3_readDeeper_25 rfl ?_
  refine sn_if_ne (y := (m_X3_readDeeper (d + 1))) (pc := 27) (tgt := 48) dX3_readDeeper_27 (by decide) (fun _ => ?_) (fun _ => ?_)
  · exact sn_sub rfl (s_X3_readDeeper_j48 hg_X3_readSum hg_X3_readProduct hg_X3_readAtom hg_X3_readDeeper p0 p1 p2 r2 r4)
  refine sn_aload_n (y := (m_X3_readDeeper (d + 1))) (pc := 30) dX3_readDeeper_30 rfl ?_
  refine sn_getA (y := (m_X3_readDeeper (d + 1))) (pc := 31) ca_3 rfl fk_X3_12 (fun _ _ _ => rfl) dX3_readDeeper_31 (fun r25 => ?_)
  refine sn_bipush (y := (m_X3_readDeeper (d + 1))) (pc := 34) dX3_readDeeper_34 kc_bipush_11 ?_
  refine sn_invV (y := (m_X3_readDeeper (d + 1))) (pc := 36) ca_7 (av := [vI (11 : Int32)]) (o := r25) (st := []) dX3_readDeeper_36 lk_X3_98 im_X9_atWord se_X9_atWord rfl rfl rfl rfl ⟨by show 2 + 1 ≤ 5 + (d + 1); omega, by show 8 + (2 + 11) + 30 ≤ 108 + 60 * (d + 1); omega⟩ (c_X9_atWord cx.1 r25 (11 : Int32)) (fun r26 => ?_)
  refine sn_if_ne (y := (m_X3_readDeeper (d + 1))) (pc := 39) (tgt := 48) dX3_readDeeper_39 (by decide) (fun _ => ?_) (fun _ => ?_)
  · exact sn_sub rfl (s_X3_readDeeper_j48 hg_X3_readSum hg_X3_readProduct hg_X3_readAtom hg_X3_readDeeper p0 p1 p2 r2 r4)
  refine sn_aload_n (y := (m_X3_readDeeper (d + 1))) (pc := 42) dX3_readDeeper_42 rfl ?_
  refine sn_iconst (y := (m_X3_readDeeper (d + 1))) (pc := 43) dX3_readDeeper_43 kc_iconst_1 ?_
  refine sn_invV (y := (m_X3_readDeeper (d + 1))) (pc := 44) ca_3 (av := [vI (1 : Int32)]) (o := p0) (st := []) dX3_readDeeper_44 lk_X3_111 im_X3_blame se_X3_blame rfl rfl rfl rfl ⟨by show 2 + 1 ≤ 5 + (d + 1); omega, by show 8 + (2 + 11) + 30 ≤ 108 + 60 * (d + 1); omega⟩ (c_X3_blame cx.1 p0 (1 : Int32)) (fun r27 => ?_)
  exact sn_zreturn rfl dX3_readDeeper_47
/-! grA -/
def grA : Nat → ((Option Nat) → Int32 → Mo Int32) × ((Option Nat) → Int32 → Mo Int32) × ((Option Nat) → Int32 → Mo Int32) × ((Option Nat) → Int32 → (Option Nat) → Mo Int32)
  | 0 => ((fun _ _ => mBad), (fun _ _ => mBad), (fun _ _ => mBad), (fun _ _ _ => mBad))
  | d + 1 => (fb_X3_readSum (grA d).1 (grA d).2.1 (grA d).2.2.1 (grA d).2.2.2, fb_X3_readProduct (grA d).1 (grA d).2.1 (grA d).2.2.1 (grA d).2.2.2, fb_X3_readAtom (grA d).1 (grA d).2.1 (grA d).2.2.1 (grA d).2.2.2, fb_X3_readDeeper (grA d).1 (grA d).2.1 (grA d).2.2.1 (grA d).2.2.2)
def f_X3_readSum (d : Nat) (p0 : (Option Nat)) (p1 : Int32) : Mo Int32 := (grA d).1 p0 p1
def f_X3_readProduct (d : Nat) (p0 : (Option Nat)) (p1 : Int32) : Mo Int32 := (grA d).2.1 p0 p1
def f_X3_readAtom (d : Nat) (p0 : (Option Nat)) (p1 : Int32) : Mo Int32 := (grA d).2.2.1 p0 p1
def f_X3_readDeeper (d : Nat) (p0 : (Option Nat)) (p1 : Int32) (p2 : (Option Nat)) : Mo Int32 := (grA d).2.2.2 p0 p1 p2
set_option maxRecDepth 100000 in
theorem c_grA (g : Gl) : ∀ d : Nat, (∀ (p0 : (Option Nat)) (p1 : Int32), Cn g (m_X3_readSum d) eI [vA p0, vI p1] (mCk 3 p0 (f_X3_readSum d p0 p1))) ∧ (∀ (p0 : (Option Nat)) (p1 : Int32), Cn g (m_X3_readProduct d) eI [vA p0, vI p1] (mCk 3 p0 (f_X3_readProduct d p0 p1))) ∧ (∀ (p0 : (Option Nat)) (p1 : Int32), Cn g (m_X3_readAtom d) eI [vA p0, vI p1] (mCk 3 p0 (f_X3_readAtom d p0 p1))) ∧ (∀ (p0 : (Option Nat)) (p1 : Int32) (p2 : (Option Nat)), Cn g (m_X3_readDeeper d) eI [vA p0, vI p1, vA p2] (mCk 3 p0 (f_X3_readDeeper d p0 p1 p2)))
  | 0 => ⟨fun _ _ => cn_bad (fun _ _ _ e => by obtain ⟨_, _, _, e1⟩ := ck_inv e; cases e1), fun _ _ => cn_bad (fun _ _ _ e => by obtain ⟨_, _, _, e1⟩ := ck_inv e; cases e1), fun _ _ => cn_bad (fun _ _ _ e => by obtain ⟨_, _, _, e1⟩ := ck_inv e; cases e1), fun _ _ _ => cn_bad (fun _ _ _ e => by obtain ⟨_, _, _, e1⟩ := ck_inv e; cases e1)⟩
  | d + 1 => by
    obtain ⟨h1, h2, h3, h4⟩ := c_grA g d
    exact ⟨fun p0 p1 => cn_of_sn (by decide +kernel : plainFor yX3_readSum = true) rfl (fun r => ⟨r, rfl⟩) rfl (fun cx hcx => sn_ck (s_X3_readSum (hcx ▸ h1) (hcx ▸ h2) (hcx ▸ h3) (hcx ▸ h4) p0 p1)), fun p0 p1 => cn_of_sn (by decide +kernel : plainFor yX3_readProduct = true) rfl (fun r => ⟨r, rfl⟩) rfl (fun cx hcx => sn_ck (s_X3_readProduct (hcx ▸ h1) (hcx ▸ h2) (hcx ▸ h3) (hcx ▸ h4) p0 p1)), fun p0 p1 => cn_of_sn (by decide +kernel : plainFor yX3_readAtom = true) rfl (fun r => ⟨r, rfl⟩) rfl (fun cx hcx => sn_ck (s_X3_readAtom (hcx ▸ h1) (hcx ▸ h2) (hcx ▸ h3) (hcx ▸ h4) p0 p1)), fun p0 p1 p2 => cn_of_sn (by decide +kernel : plainFor yX3_readDeeper = true) rfl (fun r => ⟨r, rfl⟩) rfl (fun cx hcx => sn_ck (s_X3_readDeeper (hcx ▸ h1) (hcx ▸ h2) (hcx ▸ h3) (hcx ▸ h4) p0 p1 p2))⟩
set_option maxRecDepth 100000 in
theorem c_X3_readSum (d : Nat) (g : Gl) (p0 : (Option Nat)) (p1 : Int32) : Cn g (m_X3_readSum d) eI [vA p0, vI p1] (mCk 3 p0 (f_X3_readSum d p0 p1)) := (c_grA g d).1 p0 p1
set_option maxRecDepth 100000 in
theorem c_X3_readProduct (d : Nat) (g : Gl) (p0 : (Option Nat)) (p1 : Int32) : Cn g (m_X3_readProduct d) eI [vA p0, vI p1] (mCk 3 p0 (f_X3_readProduct d p0 p1)) := (c_grA g d).2.1 p0 p1
set_option maxRecDepth 100000 in
theorem c_X3_readAtom (d : Nat) (g : Gl) (p0 : (Option Nat)) (p1 : Int32) : Cn g (m_X3_readAtom d) eI [vA p0, vI p1] (mCk 3 p0 (f_X3_readAtom d p0 p1)) := (c_grA g d).2.2.1 p0 p1
set_option maxRecDepth 100000 in
theorem c_X3_readDeeper (d : Nat) (g : Gl) (p0 : (Option Nat)) (p1 : Int32) (p2 : (Option Nat)) : Cn g (m_X3_readDeeper d) eI [vA p0, vI p1, vA p2] (mCk 3 p0 (f_X3_readDeeper d p0 p1 p2)) := (c_grA g d).2.2.2 p0 p1 p2
/-! X3_readLet -/
def f_X3_readLet (p0 : (Option Nat)) : Mo Int32 :=
  mBd (mGetA 3 5 p0) (fun r1 => mBd (mCk 0 r1 (f_X0_letsHeld r1)) (fun r2 => (if r2 < (8 : Int32) then mBd (mGetA 3 0 p0) (fun r3 => mBd (mCk 7 r3 (f_X9_step r3)) (fun _ => mBd (mCk 3 p0 (f_X3_takeNewName p0)) (fun r4 => (if r4 = 0 then mRt (0 : Int32) else mBd (mCk 3 p0 (f_X3_takeInField p0)) (fun r5 => (if r5 = 0 then mRt (0 : Int32) else mBd (mCk 3 p0 (f_X3_takeWord p0 (8 : Int32))) (fun r6 => (if r6 = 0 then mRt (0 : Int32) else mBd (mCk 3 p0 (f_X3_readSum 60 p0 (0 : Int32))) (fun r7 => (if ¬ r7 = 0 then mBd (mGetA 3 5 p0) (fun r8 => mBd (mGetJ 3 8 p0) (fun r9 => mBd (mGetI 3 7 p0) (fun r10 => mBd (mGetA 3 2 p0) (fun r11 => mBd (f_X6_rowAt r11 (0 : Int32)) (fun r12 => mBd (mCk 0 r8 (f_X0_tellLet r8 r9 r10 r12)) (fun _ => mRt (1 : Int32))))))) else mRt (0 : Int32))))))))))) else mBd (mCk 3 p0 (f_X3_blame p0 (5 : Int32))) (fun r13 => mRq (r13 = 0 ∨ r13 = 1) (mRt r13)))))
set_option maxRecDepth 100000 in
theorem s_X3_readLet {cx : CX} (p0 : (Option Nat)) : Sn cx m_X3_readLet eI 0 [(0, vA p0)] [] (f_X3_readLet p0) := by
  refine sn_aload_n (y := m_X3_readLet) (pc := 0) dX3_readLet_0 rfl ?_
  refine sn_getA (y := m_X3_readLet) (pc := 1) ca_3 rfl fk_X3_39 (fun _ _ _ => rfl) dX3_readLet_1 (fun r1 => ?_)
  refine sn_invV (y := m_X3_readLet) (pc := 4) ca_0 (av := []) (o := r1) (st := []) dX3_readLet_4 lk_X3_206 im_X0_letsHeld se_X0_letsHeld rfl rfl rfl rfl ⟨by decide, by decide⟩ (c_X0_letsHeld cx.1 r1) (fun r2 => ?_)
  refine sn_bipush (y := m_X3_readLet) (pc := 7) dX3_readLet_7 kc_bipush_8 ?_
  refine sn_icmp_lt (y := m_X3_readLet) (pc := 9) (tgt := 18) dX3_readLet_9 (by decide) (fun _ => ?_) (fun _ => ?_)
  · refine sn_aload_n (y := m_X3_readLet) (pc := 18) dX3_readLet_18 rfl ?_
    refine sn_getA (y := m_X3_readLet) (pc := 19) ca_3 rfl fk_X3_12 (fun _ _ _ => rfl) dX3_readLet_19 (fun r3 => ?_)
    refine sn_invV (y := m_X3_readLet) (pc := 22) ca_7 (av := []) (o := r3) (st := []) dX3_readLet_22 lk_X3_92 im_X9_step se_X9_step rfl rfl rfl rfl ⟨by decide, by decide⟩ (c_X9_step cx.1 r3) (fun _ => ?_)
    refine sn_aload_n (y := m_X3_readLet) (pc := 25) dX3_readLet_25 rfl ?_
    refine sn_invV (y := m_X3_readLet) (pc := 26) ca_3 (av := []) (o := p0) (st := []) dX3_readLet_26 lk_X3_146 im_X3_takeNewName se_X3_takeNewName rfl rfl rfl rfl ⟨by decide, by decide⟩ (c_X3_takeNewName cx.1 p0) (fun r4 => ?_)
    refine sn_if_eq (y := m_X3_readLet) (pc := 29) (tgt := 56) dX3_readLet_29 (by decide) (fun _ => ?_) (fun _ => ?_)
    · refine sn_iconst (y := m_X3_readLet) (pc := 56) dX3_readLet_56 kc_iconst_0 ?_
      exact sn_zreturnC (by decide) rfl dX3_readLet_57
    refine sn_aload_n (y := m_X3_readLet) (pc := 32) dX3_readLet_32 rfl ?_
    refine sn_invV (y := m_X3_readLet) (pc := 33) ca_3 (av := []) (o := p0) (st := []) dX3_readLet_33 lk_X3_170 im_X3_takeInField se_X3_takeInField rfl rfl rfl rfl ⟨by decide, by decide⟩ (c_X3_takeInField cx.1 p0) (fun r5 => ?_)
    refine sn_if_eq (y := m_X3_readLet) (pc := 36) (tgt := 56) dX3_readLet_36 (by decide) (fun _ => ?_) (fun _ => ?_)
    · refine sn_iconst (y := m_X3_readLet) (pc := 56) dX3_readLet_56 kc_iconst_0 ?_
      exact sn_zreturnC (by decide) rfl dX3_readLet_57
    refine sn_aload_n (y := m_X3_readLet) (pc := 39) dX3_readLet_39 rfl ?_
    refine sn_bipush (y := m_X3_readLet) (pc := 40) dX3_readLet_40 kc_bipush_8 ?_
    refine sn_invV (y := m_X3_readLet) (pc := 42) ca_3 (av := [vI (8 : Int32)]) (o := p0) (st := []) dX3_readLet_42 lk_X3_135 im_X3_takeWord se_X3_takeWord rfl rfl rfl rfl ⟨by decide, by decide⟩ (c_X3_takeWord cx.1 p0 (8 : Int32)) (fun r6 => ?_)
    refine sn_if_eq (y := m_X3_readLet) (pc := 45) (tgt := 56) dX3_readLet_45 (by decide) (fun _ => ?_) (fun _ => ?_)
    · refine sn_iconst (y := m_X3_readLet) (pc := 56) dX3_readLet_56 kc_iconst_0 ?_
      exact sn_zreturnC (by decide) rfl dX3_readLet_57
    refine sn_aload_n (y := m_X3_readLet) (pc := 48) dX3_readLet_48 rfl ?_
    refine sn_iconst (y := m_X3_readLet) (pc := 49) dX3_readLet_49 kc_iconst_0 ?_
    refine sn_invV (y := m_X3_readLet) (pc := 50) ca_3 (av := [vI (0 : Int32)]) (o := p0) (st := []) dX3_readLet_50 (lk_X3_209 60) im_X3_readSum se_X3_readSum rfl rfl rfl rfl ⟨by decide, by decide⟩ (c_X3_readSum 60 cx.1 p0 (0 : Int32)) (fun r7 => ?_)
    refine sn_if_ne (y := m_X3_readLet) (pc := 53) (tgt := 58) dX3_readLet_53 (by decide) (fun _ => ?_) (fun _ => ?_)
    · refine sn_aload_n (y := m_X3_readLet) (pc := 58) dX3_readLet_58 rfl ?_
      refine sn_getA (y := m_X3_readLet) (pc := 59) ca_3 rfl fk_X3_39 (fun _ _ _ => rfl) dX3_readLet_59 (fun r8 => ?_)
      refine sn_aload_n (y := m_X3_readLet) (pc := 62) dX3_readLet_62 rfl ?_
      refine sn_getJ (y := m_X3_readLet) (pc := 63) ca_3 rfl fk_X3_54 (fun _ _ _ => rfl) dX3_readLet_63 (fun r9 => ?_)
      refine sn_aload_n (y := m_X3_readLet) (pc := 66) dX3_readLet_66 rfl ?_
      refine sn_getI (y := m_X3_readLet) (pc := 67) ca_3 rfl fk_X3_50 (fun _ _ _ => rfl) dX3_readLet_67 (fun r10 => ?_)
      refine sn_aload_n (y := m_X3_readLet) (pc := 70) dX3_readLet_70 rfl ?_
      refine sn_getA (y := m_X3_readLet) (pc := 71) ca_3 rfl fk_X3_27 (fun _ _ _ => rfl) dX3_readLet_71 (fun r11 => ?_)
      refine sn_iconst (y := m_X3_readLet) (pc := 74) dX3_readLet_74 kc_iconst_0 ?_
      refine sn_invS (y := m_X3_readLet) (pc := 75) (av := [vA r11, vI (0 : Int32)]) (st := [vI r10, vJ r9, vA r8]) dX3_readLet_75 lk_X3_212 sw_X6_rowAt rfl rfl rfl ⟨by decide, by decide⟩ (c_X6_rowAt cx.1 r11 (0 : Int32)) (fun r12 => ?_)
      refine sn_invV (y := m_X3_readLet) (pc := 78) ca_0 (av := [vJ r9, vI r10, vA r12]) (o := r8) (st := []) dX3_readLet_78 lk_X3_218 im_X0_tellLet se_X0_tellLet rfl rfl rfl rfl ⟨by decide, by decide⟩ (c_X0_tellLet cx.1 r8 r9 r10 r12) (fun _ => ?_)
      refine sn_iconst (y := m_X3_readLet) (pc := 81) dX3_readLet_81 kc_iconst_1 ?_
      exact sn_zreturnC (by decide) rfl dX3_readLet_82
    refine sn_iconst (y := m_X3_readLet) (pc := 56) dX3_readLet_56 kc_iconst_0 ?_
    exact sn_zreturnC (by decide) rfl dX3_readLet_57
  refine sn_aload_n (y := m_X3_readLet) (pc := 12) dX3_readLet_12 rfl ?_
  refine sn_iconst (y := m_X3_readLet) (pc := 13) dX3_readLet_13 kc_iconst_5 ?_
  refine sn_invV (y := m_X3_readLet) (pc := 14) ca_3 (av := [vI (5 : Int32)]) (o := p0) (st := []) dX3_readLet_14 lk_X3_111 im_X3_blame se_X3_blame rfl rfl rfl rfl ⟨by decide, by decide⟩ (c_X3_blame cx.1 p0 (5 : Int32)) (fun r13 => ?_)
  exact sn_zreturn rfl dX3_readLet_17
set_option maxRecDepth 100000 in
theorem c_X3_readLet (g : Gl) (p0 : (Option Nat)) : Cn g m_X3_readLet eI [vA p0] (mCk 3 p0 (f_X3_readLet p0)) := cn_of_sn (by decide +kernel) rfl (fun r => ⟨r, rfl⟩) rfl (fun _ _ => sn_ck (s_X3_readLet p0))
/-! X9_atEnd -/
def f_X9_atEnd (p0 : (Option Nat)) : Mo Int32 :=
  mBd (mGetI 7 9 p0) (fun r1 => (if ¬ r1 = 0 then mRt (0 : Int32) else mRt (1 : Int32)))
set_option maxRecDepth 100000 in
theorem s_X9_atEnd {cx : CX} (p0 : (Option Nat)) : Sn cx m_X9_atEnd eI 0 [(0, vA p0)] [] (f_X9_atEnd p0) := by
  refine sn_aload_n (y := m_X9_atEnd) (pc := 0) dX9_atEnd_0 rfl ?_
  refine sn_getI (y := m_X9_atEnd) (pc := 1) ca_7 rfl fk_X9_41 (fun _ _ _ => rfl) dX9_atEnd_1 (fun r1 => ?_)
  refine sn_if_ne (y := m_X9_atEnd) (pc := 4) (tgt := 11) dX9_atEnd_4 (by decide) (fun _ => ?_) (fun _ => ?_)
  · refine sn_iconst (y := m_X9_atEnd) (pc := 11) dX9_atEnd_11 kc_iconst_0 ?_
    exact sn_zreturnC (by decide) rfl dX9_atEnd_12
  refine sn_iconst (y := m_X9_atEnd) (pc := 7) dX9_atEnd_7 kc_iconst_1 ?_
  refine sn_goto (y := m_X9_atEnd) (pc := 8) (tgt := 12) dX9_atEnd_8 (by decide) ?_
  exact sn_zreturnC (by decide) rfl dX9_atEnd_12
set_option maxRecDepth 100000 in
theorem c_X9_atEnd (g : Gl) (p0 : (Option Nat)) : Cn g m_X9_atEnd eI [vA p0] (mCk 7 p0 (f_X9_atEnd p0)) := cn_of_sn (by decide +kernel) rfl (fun r => ⟨r, rfl⟩) rfl (fun _ _ => sn_ck (s_X9_atEnd p0))
/-! X3_readLine -/
def f_X3_readLine_j102 (x0 : (Option Nat)) : Mo Int32 :=
  mBd (mGetI 3 13 x0) (fun r11 => (if r11 = 0 then mRt (1 : Int32) else mBd (mCk 3 x0 (f_X3_blame x0 (7 : Int32))) (fun r12 => (if r12 = 0 then mRt (0 : Int32) else mRt (1 : Int32)))))
set_option maxRecDepth 100000 in
theorem s_X3_readLine_j102 {cx : CX} (x0 : (Option Nat)) : Sn cx m_X3_readLine eI 102 [(0, vA x0)] [] (f_X3_readLine_j102 x0) := by
  refine sn_aload_n (y := m_X3_readLine) (pc := 102) dX3_readLine_102 rfl ?_
  refine sn_getI (y := m_X3_readLine) (pc := 103) ca_3 rfl fk_X3_70 (fun _ _ _ => rfl) dX3_readLine_103 (fun r11 => ?_)
  refine sn_if_eq (y := m_X3_readLine) (pc := 106) (tgt := 118) dX3_readLine_106 (by decide) (fun _ => ?_) (fun _ => ?_)
  · refine sn_iconst (y := m_X3_readLine) (pc := 118) dX3_readLine_118 kc_iconst_1 ?_
    refine sn_goto (y := m_X3_readLine) (pc := 119) (tgt := 123) dX3_readLine_119 (by decide) ?_
    exact sn_zreturnC (by decide) rfl dX3_readLine_123
  refine sn_aload_n (y := m_X3_readLine) (pc := 109) dX3_readLine_109 rfl ?_
  refine sn_bipush (y := m_X3_readLine) (pc := 110) dX3_readLine_110 kc_bipush_7 ?_
  refine sn_invV (y := m_X3_readLine) (pc := 112) ca_3 (av := [vI (7 : Int32)]) (o := x0) (st := []) dX3_readLine_112 lk_X3_111 im_X3_blame se_X3_blame rfl rfl rfl rfl ⟨by decide, by decide⟩ (c_X3_blame cx.1 x0 (7 : Int32)) (fun r12 => ?_)
  refine sn_if_eq (y := m_X3_readLine) (pc := 115) (tgt := 122) dX3_readLine_115 (by decide) (fun _ => ?_) (fun _ => ?_)
  · refine sn_iconst (y := m_X3_readLine) (pc := 122) dX3_readLine_122 kc_iconst_0 ?_
    exact sn_zreturnC (by decide) rfl dX3_readLine_123
  refine sn_iconst (y := m_X3_readLine) (pc := 118) dX3_readLine_118 kc_iconst_1 ?_
  refine sn_goto (y := m_X3_readLine) (pc := 119) (tgt := 123) dX3_readLine_119 (by decide) ?_
  exact sn_zreturnC (by decide) rfl dX3_readLine_123
def f_X3_readLine_j68 (x0 : (Option Nat)) (x1 : Int32) : Mo Int32 :=
  (if ¬ x1 = 0 then mBd (mGetA 3 0 x0) (fun r9 => mBd (mCk 7 r9 (f_X9_atEnd r9)) (fun r10 => (if ¬ r10 = 0 then f_X3_readLine_j102 x0 else mBd (mGetA 3 0 x0) (fun r13 => mBd (mCk 7 r13 (f_X9_atSign r13 (59 : Int32))) (fun r14 => (if ¬ r14 = 0 then f_X3_readLine_j102 x0 else mBd (mCk 3 x0 (f_X3_blame x0 (1 : Int32))) (fun r15 => mRq (r15 = 0 ∨ r15 = 1) (mRt r15)))))))) else mRt (0 : Int32))
set_option maxRecDepth 100000 in
theorem s_X3_readLine_j68 {cx : CX} (x0 : (Option Nat)) (x1 : Int32) : Sn cx m_X3_readLine eI 68 [(0, vA x0), (1, vI x1)] [] (f_X3_readLine_j68 x0 x1) := by
  refine sn_iload_n (y := m_X3_readLine) (pc := 68) dX3_readLine_68 rfl ?_
  refine sn_if_ne (y := m_X3_readLine) (pc := 69) (tgt := 74) dX3_readLine_69 (by decide) (fun _ => ?_) (fun _ => ?_)
  · refine sn_aload_n (y := m_X3_readLine) (pc := 74) dX3_readLine_74 rfl ?_
    refine sn_getA (y := m_X3_readLine) (pc := 75) ca_3 rfl fk_X3_12 (fun _ _ _ => rfl) dX3_readLine_75 (fun r9 => ?_)
    refine sn_invV (y := m_X3_readLine) (pc := 78) ca_7 (av := []) (o := r9) (st := []) dX3_readLine_78 lk_X3_85 im_X9_atEnd se_X9_atEnd rfl rfl rfl rfl ⟨by decide, by decide⟩ (c_X9_atEnd cx.1 r9) (fun r10 => ?_)
    refine sn_if_ne (y := m_X3_readLine) (pc := 81) (tgt := 102) dX3_readLine_81 (by decide) (fun _ => ?_) (fun _ => ?_)
    · exact sn_sub rfl (s_X3_readLine_j102 x0)
    refine sn_aload_n (y := m_X3_readLine) (pc := 84) dX3_readLine_84 rfl ?_
    refine sn_getA (y := m_X3_readLine) (pc := 85) ca_3 rfl fk_X3_12 (fun _ _ _ => rfl) dX3_readLine_85 (fun r13 => ?_)
    refine sn_bipush (y := m_X3_readLine) (pc := 88) dX3_readLine_88 kc_bipush_59 ?_
    refine sn_invV (y := m_X3_readLine) (pc := 90) ca_7 (av := [vI (59 : Int32)]) (o := r13) (st := []) dX3_readLine_90 lk_X3_114 im_X9_atSign se_X9_atSign rfl rfl rfl rfl ⟨by decide, by decide⟩ (c_X9_atSign cx.1 r13 (59 : Int32)) (fun r14 => ?_)
    refine sn_if_ne (y := m_X3_readLine) (pc := 93) (tgt := 102) dX3_readLine_93 (by decide) (fun _ => ?_) (fun _ => ?_)
    · exact sn_sub rfl (s_X3_readLine_j102 x0)
    refine sn_aload_n (y := m_X3_readLine) (pc := 96) dX3_readLine_96 rfl ?_
    refine sn_iconst (y := m_X3_readLine) (pc := 97) dX3_readLine_97 kc_iconst_1 ?_
    refine sn_invV (y := m_X3_readLine) (pc := 98) ca_3 (av := [vI (1 : Int32)]) (o := x0) (st := []) dX3_readLine_98 lk_X3_111 im_X3_blame se_X3_blame rfl rfl rfl rfl ⟨by decide, by decide⟩ (c_X3_blame cx.1 x0 (1 : Int32)) (fun r15 => ?_)
    exact sn_zreturn rfl dX3_readLine_101
  refine sn_iconst (y := m_X3_readLine) (pc := 72) dX3_readLine_72 kc_iconst_0 ?_
  exact sn_zreturnC (by decide) rfl dX3_readLine_73
def f_X3_readLine (p0 : (Option Nat)) : Mo Int32 :=
  mBd (mPutZ 3 13 p0 (0 : Int32)) (fun _ => mBd (mGetA 3 0 p0) (fun r1 => mBd (mCk 7 r1 (f_X9_atWord r1 (0 : Int32))) (fun r2 => (if r2 = 0 then mBd (mGetA 3 0 p0) (fun r3 => mBd (mCk 7 r3 (f_X9_atWord r3 (1 : Int32))) (fun r4 => (if r4 = 0 then mBd (mGetA 3 0 p0) (fun r5 => mBd (mCk 7 r5 (f_X9_atWord r5 (2 : Int32))) (fun r6 => (if r6 = 0 then mBd (mCk 3 p0 (f_X3_blame p0 (1 : Int32))) (fun r7 => mRq (r7 = 0 ∨ r7 = 1) (mRt r7)) else mBd (mCk 3 p0 (f_X3_readLet p0)) (fun r8 => f_X3_readLine_j68 p0 r8)))) else mBd (mCk 3 p0 (f_X3_readEquation p0)) (fun r16 => f_X3_readLine_j68 p0 r16)))) else mBd (mCk 3 p0 (f_X3_readField p0)) (fun r17 => f_X3_readLine_j68 p0 r17)))))
set_option maxRecDepth 100000 in
theorem s_X3_readLine {cx : CX} (p0 : (Option Nat)) : Sn cx m_X3_readLine eI 0 [(0, vA p0)] [] (f_X3_readLine p0) := by
  refine sn_aload_n (y := m_X3_readLine) (pc := 0) dX3_readLine_0 rfl ?_
  refine sn_iconst (y := m_X3_readLine) (pc := 1) dX3_readLine_1 kc_iconst_0 ?_
  refine sn_putZ (y := m_X3_readLine) (pc := 2) ca_3 rfl fk_X3_70 (Or.inl rfl) rfl dX3_readLine_2 ?_
  refine sn_aload_n (y := m_X3_readLine) (pc := 5) dX3_readLine_5 rfl ?_
  refine sn_getA (y := m_X3_readLine) (pc := 6) ca_3 rfl fk_X3_12 (fun _ _ _ => rfl) dX3_readLine_6 (fun r1 => ?_)
  refine sn_iconst (y := m_X3_readLine) (pc := 9) dX3_readLine_9 kc_iconst_0 ?_
  refine sn_invV (y := m_X3_readLine) (pc := 10) ca_7 (av := [vI (0 : Int32)]) (o := r1) (st := []) dX3_readLine_10 lk_X3_98 im_X9_atWord se_X9_atWord rfl rfl rfl rfl ⟨by decide, by decide⟩ (c_X9_atWord cx.1 r1 (0 : Int32)) (fun r2 => ?_)
  refine sn_if_eq (y := m_X3_readLine) (pc := 13) (tgt := 24) dX3_readLine_13 (by decide) (fun _ => ?_) (fun _ => ?_)
  · refine sn_aload_n (y := m_X3_readLine) (pc := 24) dX3_readLine_24 rfl ?_
    refine sn_getA (y := m_X3_readLine) (pc := 25) ca_3 rfl fk_X3_12 (fun _ _ _ => rfl) dX3_readLine_25 (fun r3 => ?_)
    refine sn_iconst (y := m_X3_readLine) (pc := 28) dX3_readLine_28 kc_iconst_1 ?_
    refine sn_invV (y := m_X3_readLine) (pc := 29) ca_7 (av := [vI (1 : Int32)]) (o := r3) (st := []) dX3_readLine_29 lk_X3_98 im_X9_atWord se_X9_atWord rfl rfl rfl rfl ⟨by decide, by decide⟩ (c_X9_atWord cx.1 r3 (1 : Int32)) (fun r4 => ?_)
    refine sn_if_eq (y := m_X3_readLine) (pc := 32) (tgt := 43) dX3_readLine_32 (by decide) (fun _ => ?_) (fun _ => ?_)
    · refine sn_aload_n (y := m_X3_readLine) (pc := 43) dX3_readLine_43 rfl ?_
      refine sn_getA (y := m_X3_readLine) (pc := 44) ca_3 rfl fk_X3_12 (fun _ _ _ => rfl) dX3_readLine_44 (fun r5 => ?_)
      refine sn_iconst (y := m_X3_readLine) (pc := 47) dX3_readLine_47 kc_iconst_2 ?_
      refine sn_invV (y := m_X3_readLine) (pc := 48) ca_7 (av := [vI (2 : Int32)]) (o := r5) (st := []) dX3_readLine_48 lk_X3_98 im_X9_atWord se_X9_atWord rfl rfl rfl rfl ⟨by decide, by decide⟩ (c_X9_atWord cx.1 r5 (2 : Int32)) (fun r6 => ?_)
      refine sn_if_eq (y := m_X3_readLine) (pc := 51) (tgt := 62) dX3_readLine_51 (by decide) (fun _ => ?_) (fun _ => ?_)
      · refine sn_aload_n (y := m_X3_readLine) (pc := 62) dX3_readLine_62 rfl ?_
        refine sn_iconst (y := m_X3_readLine) (pc := 63) dX3_readLine_63 kc_iconst_1 ?_
        refine sn_invV (y := m_X3_readLine) (pc := 64) ca_3 (av := [vI (1 : Int32)]) (o := p0) (st := []) dX3_readLine_64 lk_X3_111 im_X3_blame se_X3_blame rfl rfl rfl rfl ⟨by decide, by decide⟩ (c_X3_blame cx.1 p0 (1 : Int32)) (fun r7 => ?_)
        exact sn_zreturn rfl dX3_readLine_67
      refine sn_aload_n (y := m_X3_readLine) (pc := 54) dX3_readLine_54 rfl ?_
      refine sn_invV (y := m_X3_readLine) (pc := 55) ca_3 (av := []) (o := p0) (st := []) dX3_readLine_55 lk_X3_108 im_X3_readLet se_X3_readLet rfl rfl rfl rfl ⟨by decide, by decide⟩ (c_X3_readLet cx.1 p0) (fun r8 => ?_)
      refine sn_istore_n (y := m_X3_readLine) (pc := 58) dX3_readLine_58 rfl ?_
      refine sn_goto (y := m_X3_readLine) (pc := 59) (tgt := 68) dX3_readLine_59 (by decide) ?_
      exact sn_sub rfl (s_X3_readLine_j68 p0 r8)
    refine sn_aload_n (y := m_X3_readLine) (pc := 35) dX3_readLine_35 rfl ?_
    refine sn_invV (y := m_X3_readLine) (pc := 36) ca_3 (av := []) (o := p0) (st := []) dX3_readLine_36 lk_X3_105 im_X3_readEquation se_X3_readEquation rfl rfl rfl rfl ⟨by decide, by decide⟩ (c_X3_readEquation cx.1 p0) (fun r16 => ?_)
    refine sn_istore_n (y := m_X3_readLine) (pc := 39) dX3_readLine_39 rfl ?_
    refine sn_goto (y := m_X3_readLine) (pc := 40) (tgt := 68) dX3_readLine_40 (by decide) ?_
    exact sn_sub rfl (s_X3_readLine_j68 p0 r16)
  refine sn_aload_n (y := m_X3_readLine) (pc := 16) dX3_readLine_16 rfl ?_
  refine sn_invV (y := m_X3_readLine) (pc := 17) ca_3 (av := []) (o := p0) (st := []) dX3_readLine_17 lk_X3_102 im_X3_readField se_X3_readField rfl rfl rfl rfl ⟨by decide, by decide⟩ (c_X3_readField cx.1 p0) (fun r17 => ?_)
  refine sn_istore_n (y := m_X3_readLine) (pc := 20) dX3_readLine_20 rfl ?_
  refine sn_goto (y := m_X3_readLine) (pc := 21) (tgt := 68) dX3_readLine_21 (by decide) ?_
  exact sn_sub rfl (s_X3_readLine_j68 p0 r17)
set_option maxRecDepth 100000 in
theorem c_X3_readLine (g : Gl) (p0 : (Option Nat)) : Cn g m_X3_readLine eI [vA p0] (mCk 3 p0 (f_X3_readLine p0)) := cn_of_sn (by decide +kernel) rfl (fun r => ⟨r, rfl⟩) rfl (fun _ _ => sn_ck (s_X3_readLine p0))
