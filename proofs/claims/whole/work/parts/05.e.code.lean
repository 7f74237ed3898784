/-! X10_sum -/
def f_X10_sum (p0 : (Option Nat)) (p1 : Int32) (p2 : Int32) (p3 : Int32) (p4 : Int32) : Mo Int32 :=
  mBd (mGetA 8 8 p0) (fun r1 => mBd (mCk 0 r1 (f_X0_fieldAt r1 p1)) (fun r2 => mBd (f_X10_hasSum r2 p2 p3) (fun r3 => (if r3 = 0 then mBd (mCk 8 p0 (f_X10_refused p0 (1 : Int32) (-1000 : Int32))) (fun r4 => mRt r4) else (if p4 < 0 then mBd (mCk 8 p0 (f_X10_refused p0 (1 : Int32) (-1000 : Int32))) (fun r5 => mRt r5) else mBd (mCk 2 r2 (f_X2_rowLength r2)) (fun r6 => (if p4 < r6 then mBd (mGetA 8 1 p0) (fun r7 => mBd (mGetA 8 4 p0) (fun r8 => mBd (mCk 2 r2 (f_X2_jacobiSum r2 p2 p3 r7 r8)) (fun _ => mBd (mGetA 8 4 p0) (fun r9 => mBd (f_X6_at r9 p4) (fun r10 => mBd (mCk 8 p0 (f_X10_answered p0 (r10.toInt32))) (fun r11 => mRt r11)))))) else mBd (mCk 8 p0 (f_X10_refused p0 (1 : Int32) (-1000 : Int32))) (fun r12 => mRt r12))))))))
set_option maxRecDepth 100000 in
theorem s_X10_sum {cx : CX} (p0 : (Option Nat)) (p1 : Int32) (p2 : Int32) (p3 : Int32) (p4 : Int32) : Sn cx m_X10_sum eI 0 [(0, vA p0), (1, vI p1), (2, vI p2), (3, vI p3), (4, vI p4)] [] (f_X10_sum p0 p1 p2 p3 p4) := by
  refine sn_aload_n (y := m_X10_sum) (pc := 0) dX10_sum_0 rfl ?_
  refine sn_getA (y := m_X10_sum) (pc := 1) ca_8 rfl fk_X10_53 (fun _ _ _ => rfl) dX10_sum_1 (fun r1 => ?_)
  refine sn_iload_n (y := m_X10_sum) (pc := 4) dX10_sum_4 rfl ?_
  refine sn_invV (y := m_X10_sum) (pc := 5) ca_0 (av := [vI p1]) (o := r1) (st := []) dX10_sum_5 lk_X10_111 im_X0_fieldAt se_X0_fieldAt rfl rfl rfl rfl ⟨by decide, by decide⟩ (c_X0_fieldAt cx.1 r1 p1) (fun r2 => ?_)
  refine sn_astore (y := m_X10_sum) (pc := 8) dX10_sum_8 rfl ?_
  refine sn_aload (y := m_X10_sum) (pc := 10) dX10_sum_10 rfl ?_
  refine sn_iload_n (y := m_X10_sum) (pc := 12) dX10_sum_12 rfl ?_
  refine sn_iload_n (y := m_X10_sum) (pc := 13) dX10_sum_13 rfl ?_
  refine sn_invS (y := m_X10_sum) (pc := 14) (av := [vA r2, vI p2, vI p3]) (st := []) dX10_sum_14 lk_X10_144 sw_X10_hasSum rfl rfl rfl ⟨by decide, by decide⟩ (c_X10_hasSum cx.1 r2 p2 p3) (fun r3 => ?_)
  refine sn_if_eq (y := m_X10_sum) (pc := 17) (tgt := 35) dX10_sum_17 (by decide) (fun _ => ?_) (fun _ => ?_)
  · refine sn_aload_n (y := m_X10_sum) (pc := 35) dX10_sum_35 rfl ?_
    refine sn_iconst (y := m_X10_sum) (pc := 36) dX10_sum_36 kc_iconst_1 ?_
    refine sn_sipush (y := m_X10_sum) (pc := 37) dX10_sum_37 kc_sipush_m1000 ?_
    refine sn_invV (y := m_X10_sum) (pc := 40) ca_8 (av := [vI (1 : Int32), vI (-1000 : Int32)]) (o := p0) (st := []) dX10_sum_40 lk_X10_85 im_X10_refused se_X10_refused rfl rfl rfl rfl ⟨by decide, by decide⟩ (c_X10_refused cx.1 p0 (1 : Int32) (-1000 : Int32)) (fun r4 => ?_)
    exact sn_ireturn rfl dX10_sum_43
  refine sn_iload (y := m_X10_sum) (pc := 20) dX10_sum_20 rfl ?_
  refine sn_if_lt (y := m_X10_sum) (pc := 22) (tgt := 35) dX10_sum_22 (by decide) (fun _ => ?_) (fun _ => ?_)
  · refine sn_aload_n (y := m_X10_sum) (pc := 35) dX10_sum_35 rfl ?_
    refine sn_iconst (y := m_X10_sum) (pc := 36) dX10_sum_36 kc_iconst_1 ?_
    refine sn_sipush (y := m_X10_sum) (pc := 37) dX10_sum_37 kc_sipush_m1000 ?_
    refine sn_invV (y := m_X10_sum) (pc := 40) ca_8 (av := [vI (1 : Int32), vI (-1000 : Int32)]) (o := p0) (st := []) dX10_sum_40 lk_X10_85 im_X10_refused se_X10_refused rfl rfl rfl rfl ⟨by decide, by decide⟩ (c_X10_refused cx.1 p0 (1 : Int32) (-1000 : Int32)) (fun r5 => ?_)
    exact sn_ireturn rfl dX10_sum_43
  refine sn_iload (y := m_X10_sum) (pc := 25) dX10_sum_25 rfl ?_
  refine sn_aload (y := m_X10_sum) (pc := 27) dX10_sum_27 rfl ?_
  refine sn_invV (y := m_X10_sum) (pc := 29) ca_2 (av := []) (o := r2) (st := [vI p4]) dX10_sum_29 lk_X10_126 im_X2_rowLength se_X2_rowLength rfl rfl rfl rfl ⟨by decide, by decide⟩ (c_X2_rowLength cx.1 r2) (fun r6 => ?_)
  refine sn_icmp_lt (y := m_X10_sum) (pc := 32) (tgt := 44) dX10_sum_32 (by decide) (fun _ => ?_) (fun _ => ?_)
  · refine sn_aload (y := m_X10_sum) (pc := 44) dX10_sum_44 rfl ?_
    refine sn_iload_n (y := m_X10_sum) (pc := 46) dX10_sum_46 rfl ?_
    refine sn_iload_n (y := m_X10_sum) (pc := 47) dX10_sum_47 rfl ?_
    refine sn_aload_n (y := m_X10_sum) (pc := 48) dX10_sum_48 rfl ?_
    refine sn_getA (y := m_X10_sum) (pc := 49) ca_8 rfl fk_X10_19 (fun _ _ _ => rfl) dX10_sum_49 (fun r7 => ?_)
    refine sn_aload_n (y := m_X10_sum) (pc := 52) dX10_sum_52 rfl ?_
    refine sn_getA (y := m_X10_sum) (pc := 53) ca_8 rfl fk_X10_37 (fun _ _ _ => rfl) dX10_sum_53 (fun r8 => ?_)
    refine sn_invV (y := m_X10_sum) (pc := 56) ca_2 (av := [vI p2, vI p3, vA r7, vA r8]) (o := r2) (st := []) dX10_sum_56 lk_X10_148 im_X2_jacobiSum se_X2_jacobiSum rfl rfl rfl rfl ⟨by decide, by decide⟩ (c_X2_jacobiSum cx.1 r2 p2 p3 r7 r8) (fun _ => ?_)
    refine sn_aload_n (y := m_X10_sum) (pc := 59) dX10_sum_59 rfl ?_
    refine sn_aload_n (y := m_X10_sum) (pc := 60) dX10_sum_60 rfl ?_
    refine sn_getA (y := m_X10_sum) (pc := 61) ca_8 rfl fk_X10_37 (fun _ _ _ => rfl) dX10_sum_61 (fun r9 => ?_)
    refine sn_iload (y := m_X10_sum) (pc := 64) dX10_sum_64 rfl ?_
    refine sn_invS (y := m_X10_sum) (pc := 66) (av := [vA r9, vI p4]) (st := [vA p0]) dX10_sum_66 lk_X10_152 sw_X6_at rfl rfl rfl ⟨by decide, by decide⟩ (c_X6_at cx.1 r9 p4) (fun r10 => ?_)
    refine sn_l2i (y := m_X10_sum) (pc := 69) dX10_sum_69 ?_
    refine sn_invV (y := m_X10_sum) (pc := 70) ca_8 (av := [vI (r10.toInt32)]) (o := p0) (st := []) dX10_sum_70 lk_X10_108 im_X10_answered se_X10_answered rfl rfl rfl rfl ⟨by decide, by decide⟩ (c_X10_answered cx.1 p0 (r10.toInt32)) (fun r11 => ?_)
    exact sn_ireturn rfl dX10_sum_73
  refine sn_aload_n (y := m_X10_sum) (pc := 35) dX10_sum_35 rfl ?_
  refine sn_iconst (y := m_X10_sum) (pc := 36) dX10_sum_36 kc_iconst_1 ?_
  refine sn_sipush (y := m_X10_sum) (pc := 37) dX10_sum_37 kc_sipush_m1000 ?_
  refine sn_invV (y := m_X10_sum) (pc := 40) ca_8 (av := [vI (1 : Int32), vI (-1000 : Int32)]) (o := p0) (st := []) dX10_sum_40 lk_X10_85 im_X10_refused se_X10_refused rfl rfl rfl rfl ⟨by decide, by decide⟩ (c_X10_refused cx.1 p0 (1 : Int32) (-1000 : Int32)) (fun r12 => ?_)
  exact sn_ireturn rfl dX10_sum_43
set_option maxRecDepth 100000 in
theorem c_X10_sum (g : Gl) (p0 : (Option Nat)) (p1 : Int32) (p2 : Int32) (p3 : Int32) (p4 : Int32) : Cn g m_X10_sum eI [vA p0, vI p1, vI p2, vI p3, vI p4] (mCk 8 p0 (f_X10_sum p0 p1 p2 p3 p4)) := cn_of_sn (by decide +kernel) rfl (fun r => ⟨r, rfl⟩) rfl (fun _ _ => sn_ck (s_X10_sum p0 p1 p2 p3 p4))
/-! X10_norm -/
def f_X10_norm (p0 : (Option Nat)) (p1 : Int32) (p2 : Int32) (p3 : Int32) : Mo Int32 :=
  mBd (mGetA 8 8 p0) (fun r1 => mBd (mCk 0 r1 (f_X0_fieldAt r1 p1)) (fun r2 => mBd (f_X10_hasSum r2 p2 p3) (fun r3 => (if ¬ r3 = 0 then mBd (mCk 2 r2 (f_X2_order r2)) (fun r4 => mBd (mGetA 8 1 p0) (fun r5 => mBd (mGetA 8 4 p0) (fun r6 => mBd (mCk 2 r2 (f_X2_jacobiSum r2 p2 p3 r5 r6)) (fun _ => mBd (mGetA 8 1 p0) (fun r7 => mBd (mGetA 8 4 p0) (fun r8 => mBd (mGetA 8 5 p0) (fun r9 => mBd (mCk 5 r7 (f_X5_turnRow r7 r8 (r4 - (1 : Int32)) r9 r4)) (fun _ => mBd (mGetA 8 1 p0) (fun r10 => mBd (mGetA 8 4 p0) (fun r11 => mBd (mGetA 8 5 p0) (fun r12 => mBd (mGetA 8 6 p0) (fun r13 => mBd (mCk 5 r10 (f_X5_multiply r10 r11 r12 r13 r4)) (fun _ => mBd (mGetA 8 6 p0) (fun r14 => mBd (f_X6_isWhole r14) (fun r15 => (if r15 = 0 then mBd (mCk 8 p0 (f_X10_answered p0 (-2 : Int32))) (fun r16 => mRt r16) else mBd (mGetA 8 6 p0) (fun r17 => mBd (f_X6_at r17 (0 : Int32)) (fun r18 => mBd (mCk 8 p0 (f_X10_answered p0 (r18.toInt32))) (fun r19 => mRt r19))))))))))))))))))) else mBd (mCk 8 p0 (f_X10_refused p0 (1 : Int32) (-1 : Int32))) (fun r20 => mRt r20)))))
set_option maxRecDepth 100000 in
theorem s_X10_norm {cx : CX} (p0 : (Option Nat)) (p1 : Int32) (p2 : Int32) (p3 : Int32) : Sn cx m_X10_norm eI 0 [(0, vA p0), (1, vI p1), (2, vI p2), (3, vI p3)] [] (f_X10_norm p0 p1 p2 p3) := by
  refine sn_aload_n (y := m_X10_norm) (pc := 0) dX10_norm_0 rfl ?_
  refine sn_getA (y := m_X10_norm) (pc := 1) ca_8 rfl fk_X10_53 (fun _ _ _ => rfl) dX10_norm_1 (fun r1 => ?_)
  refine sn_iload_n (y := m_X10_norm) (pc := 4) dX10_norm_4 rfl ?_
  refine sn_invV (y := m_X10_norm) (pc := 5) ca_0 (av := [vI p1]) (o := r1) (st := []) dX10_norm_5 lk_X10_111 im_X0_fieldAt se_X0_fieldAt rfl rfl rfl rfl ⟨by decide, by decide⟩ (c_X0_fieldAt cx.1 r1 p1) (fun r2 => ?_)
  refine sn_astore (y := m_X10_norm) (pc := 8) dX10_norm_8 rfl ?_
  refine sn_aload (y := m_X10_norm) (pc := 10) dX10_norm_10 rfl ?_
  refine sn_iload_n (y := m_X10_norm) (pc := 12) dX10_norm_12 rfl ?_
  refine sn_iload_n (y := m_X10_norm) (pc := 13) dX10_norm_13 rfl ?_
  refine sn_invS (y := m_X10_norm) (pc := 14) (av := [vA r2, vI p2, vI p3]) (st := []) dX10_norm_14 lk_X10_144 sw_X10_hasSum rfl rfl rfl ⟨by decide, by decide⟩ (c_X10_hasSum cx.1 r2 p2 p3) (fun r3 => ?_)
  refine sn_if_ne (y := m_X10_norm) (pc := 17) (tgt := 27) dX10_norm_17 (by decide) (fun _ => ?_) (fun _ => ?_)
  · refine sn_aload (y := m_X10_norm) (pc := 27) dX10_norm_27 rfl ?_
    refine sn_invV (y := m_X10_norm) (pc := 29) ca_2 (av := []) (o := r2) (st := []) dX10_norm_29 lk_X10_120 im_X2_order se_X2_order rfl rfl rfl rfl ⟨by decide, by decide⟩ (c_X2_order cx.1 r2) (fun r4 => ?_)
    refine sn_istore (y := m_X10_norm) (pc := 32) dX10_norm_32 rfl ?_
    refine sn_aload (y := m_X10_norm) (pc := 34) dX10_norm_34 rfl ?_
    refine sn_iload_n (y := m_X10_norm) (pc := 36) dX10_norm_36 rfl ?_
    refine sn_iload_n (y := m_X10_norm) (pc := 37) dX10_norm_37 rfl ?_
    refine sn_aload_n (y := m_X10_norm) (pc := 38) dX10_norm_38 rfl ?_
    refine sn_getA (y := m_X10_norm) (pc := 39) ca_8 rfl fk_X10_19 (fun _ _ _ => rfl) dX10_norm_39 (fun r5 => ?_)
    refine sn_aload_n (y := m_X10_norm) (pc := 42) dX10_norm_42 rfl ?_
    refine sn_getA (y := m_X10_norm) (pc := 43) ca_8 rfl fk_X10_37 (fun _ _ _ => rfl) dX10_norm_43 (fun r6 => ?_)
    refine sn_invV (y := m_X10_norm) (pc := 46) ca_2 (av := [vI p2, vI p3, vA r5, vA r6]) (o := r2) (st := []) dX10_norm_46 lk_X10_148 im_X2_jacobiSum se_X2_jacobiSum rfl rfl rfl rfl ⟨by decide, by decide⟩ (c_X2_jacobiSum cx.1 r2 p2 p3 r5 r6) (fun _ => ?_)
    refine sn_aload_n (y := m_X10_norm) (pc := 49) dX10_norm_49 rfl ?_
    refine sn_getA (y := m_X10_norm) (pc := 50) ca_8 rfl fk_X10_19 (fun _ _ _ => rfl) dX10_norm_50 (fun r7 => ?_)
    refine sn_aload_n (y := m_X10_norm) (pc := 53) dX10_norm_53 rfl ?_
    refine sn_getA (y := m_X10_norm) (pc := 54) ca_8 rfl fk_X10_37 (fun _ _ _ => rfl) dX10_norm_54 (fun r8 => ?_)
    refine sn_iload (y := m_X10_norm) (pc := 57) dX10_norm_57 rfl ?_
    refine sn_iconst (y := m_X10_norm) (pc := 59) dX10_norm_59 kc_iconst_1 ?_
    refine sn_isub (y := m_X10_norm) (pc := 60) dX10_norm_60 ?_
    refine sn_aload_n (y := m_X10_norm) (pc := 61) dX10_norm_61 rfl ?_
    refine sn_getA (y := m_X10_norm) (pc := 62) ca_8 rfl fk_X10_41 (fun _ _ _ => rfl) dX10_norm_62 (fun r9 => ?_)
    refine sn_iload (y := m_X10_norm) (pc := 65) dX10_norm_65 rfl ?_
    refine sn_invV (y := m_X10_norm) (pc := 67) ca_5 (av := [vA r8, vI (r4 - (1 : Int32)), vA r9, vI r4]) (o := r7) (st := []) dX10_norm_67 lk_X10_158 im_X5_turnRow se_X5_turnRow rfl rfl rfl rfl ⟨by decide, by decide⟩ (c_X5_turnRow cx.1 r7 r8 (r4 - (1 : Int32)) r9 r4) (fun _ => ?_)
    refine sn_aload_n (y := m_X10_norm) (pc := 70) dX10_norm_70 rfl ?_
    refine sn_getA (y := m_X10_norm) (pc := 71) ca_8 rfl fk_X10_19 (fun _ _ _ => rfl) dX10_norm_71 (fun r10 => ?_)
    refine sn_aload_n (y := m_X10_norm) (pc := 74) dX10_norm_74 rfl ?_
    refine sn_getA (y := m_X10_norm) (pc := 75) ca_8 rfl fk_X10_37 (fun _ _ _ => rfl) dX10_norm_75 (fun r11 => ?_)
    refine sn_aload_n (y := m_X10_norm) (pc := 78) dX10_norm_78 rfl ?_
    refine sn_getA (y := m_X10_norm) (pc := 79) ca_8 rfl fk_X10_41 (fun _ _ _ => rfl) dX10_norm_79 (fun r12 => ?_)
    refine sn_aload_n (y := m_X10_norm) (pc := 82) dX10_norm_82 rfl ?_
    refine sn_getA (y := m_X10_norm) (pc := 83) ca_8 rfl fk_X10_44 (fun _ _ _ => rfl) dX10_norm_83 (fun r13 => ?_)
    refine sn_iload (y := m_X10_norm) (pc := 86) dX10_norm_86 rfl ?_
    refine sn_invV (y := m_X10_norm) (pc := 88) ca_5 (av := [vA r11, vA r12, vA r13, vI r4]) (o := r10) (st := []) dX10_norm_88 lk_X10_162 im_X5_multiply se_X5_multiply rfl rfl rfl rfl ⟨by decide, by decide⟩ (c_X5_multiply cx.1 r10 r11 r12 r13 r4) (fun _ => ?_)
    refine sn_aload_n (y := m_X10_norm) (pc := 91) dX10_norm_91 rfl ?_
    refine sn_aload_n (y := m_X10_norm) (pc := 92) dX10_norm_92 rfl ?_
    refine sn_getA (y := m_X10_norm) (pc := 93) ca_8 rfl fk_X10_44 (fun _ _ _ => rfl) dX10_norm_93 (fun r14 => ?_)
    refine sn_invS (y := m_X10_norm) (pc := 96) (av := [vA r14]) (st := [vA p0]) dX10_norm_96 lk_X10_166 sw_X6_isWhole rfl rfl rfl ⟨by decide, by decide⟩ (c_X6_isWhole cx.1 r14) (fun r15 => ?_)
    refine sn_if_eq (y := m_X10_norm) (pc := 99) (tgt := 114) dX10_norm_99 (by decide) (fun _ => ?_) (fun _ => ?_)
    · refine sn_bipush (y := m_X10_norm) (pc := 114) dX10_norm_114 kc_bipush_m2 ?_
      refine sn_invV (y := m_X10_norm) (pc := 116) ca_8 (av := [vI (-2 : Int32)]) (o := p0) (st := []) dX10_norm_116 lk_X10_108 im_X10_answered se_X10_answered rfl rfl rfl rfl ⟨by decide, by decide⟩ (c_X10_answered cx.1 p0 (-2 : Int32)) (fun r16 => ?_)
      exact sn_ireturn rfl dX10_norm_119
    refine sn_aload_n (y := m_X10_norm) (pc := 102) dX10_norm_102 rfl ?_
    refine sn_getA (y := m_X10_norm) (pc := 103) ca_8 rfl fk_X10_44 (fun _ _ _ => rfl) dX10_norm_103 (fun r17 => ?_)
    refine sn_iconst (y := m_X10_norm) (pc := 106) dX10_norm_106 kc_iconst_0 ?_
    refine sn_invS (y := m_X10_norm) (pc := 107) (av := [vA r17, vI (0 : Int32)]) (st := [vA p0]) dX10_norm_107 lk_X10_152 sw_X6_at rfl rfl rfl ⟨by decide, by decide⟩ (c_X6_at cx.1 r17 (0 : Int32)) (fun r18 => ?_)
    refine sn_l2i (y := m_X10_norm) (pc := 110) dX10_norm_110 ?_
    refine sn_goto (y := m_X10_norm) (pc := 111) (tgt := 116) dX10_norm_111 (by decide) ?_
    refine sn_invV (y := m_X10_norm) (pc := 116) ca_8 (av := [vI (r18.toInt32)]) (o := p0) (st := []) dX10_norm_116 lk_X10_108 im_X10_answered se_X10_answered rfl rfl rfl rfl ⟨by decide, by decide⟩ (c_X10_answered cx.1 p0 (r18.toInt32)) (fun r19 => ?_)
    exact sn_ireturn rfl dX10_norm_119
  refine sn_aload_n (y := m_X10_norm) (pc := 20) dX10_norm_20 rfl ?_
  refine sn_iconst (y := m_X10_norm) (pc := 21) dX10_norm_21 kc_iconst_1 ?_
  refine sn_iconst (y := m_X10_norm) (pc := 22) dX10_norm_22 kc_iconst_m1 ?_
  refine sn_invV (y := m_X10_norm) (pc := 23) ca_8 (av := [vI (1 : Int32), vI (-1 : Int32)]) (o := p0) (st := []) dX10_norm_23 lk_X10_85 im_X10_refused se_X10_refused rfl rfl rfl rfl ⟨by decide, by decide⟩ (c_X10_refused cx.1 p0 (1 : Int32) (-1 : Int32)) (fun r20 => ?_)
  exact sn_ireturn rfl dX10_norm_26
set_option maxRecDepth 100000 in
theorem c_X10_norm (g : Gl) (p0 : (Option Nat)) (p1 : Int32) (p2 : Int32) (p3 : Int32) : Cn g m_X10_norm eI [vA p0, vI p1, vI p2, vI p3] (mCk 8 p0 (f_X10_norm p0 p1 p2 p3)) := cn_of_sn (by decide +kernel) rfl (fun r => ⟨r, rfl⟩) rfl (fun _ _ => sn_ck (s_X10_norm p0 p1 p2 p3))
/-! X10_relation -/
def f_X10_relation (p0 : (Option Nat)) (p1 : Int32) (p2 : Int32) (p3 : Int32) (p4 : Int32) : Mo Int32 :=
  mBd (mGetA 8 8 p0) (fun r1 => mBd (mCk 0 r1 (f_X0_fieldAt r1 p1)) (fun r2 => mBd (f_X10_hasSum r2 p2 p3) (fun r3 => (if r3 = 0 then mBd (mCk 8 p0 (f_X10_refused p0 (1 : Int32) (-1 : Int32))) (fun r4 => mRt r4) else mBd (mCk 2 r2 (f_X2_hasCharacter r2 p4)) (fun r5 => (if ¬ r5 = 0 then mBd (mCk 2 r2 (f_X2_order r2)) (fun r6 => mBd (mGetA 8 1 p0) (fun r7 => mBd (mGetA 8 4 p0) (fun r8 => mBd (mCk 2 r2 (f_X2_jacobiSum r2 p2 p3 r7 r8)) (fun _ => mBd (f_X6_mod ((p2 + p3).toInt64) r6) (fun r9 => mBd (mGetA 8 1 p0) (fun r10 => mBd (mGetA 8 5 p0) (fun r11 => mBd (mCk 2 r2 (f_X2_jacobiSum r2 r9 p4 r10 r11)) (fun _ => mBd (mGetA 8 1 p0) (fun r12 => mBd (mGetA 8 4 p0) (fun r13 => mBd (mGetA 8 5 p0) (fun r14 => mBd (mGetA 8 6 p0) (fun r15 => mBd (mCk 5 r12 (f_X5_multiply r12 r13 r14 r15 r6)) (fun _ => mBd (mGetA 8 1 p0) (fun r16 => mBd (mGetA 8 4 p0) (fun r17 => mBd (mCk 2 r2 (f_X2_jacobiSum r2 p3 p4 r16 r17)) (fun _ => mBd (f_X6_mod ((p3 + p4).toInt64) r6) (fun r18 => mBd (mGetA 8 1 p0) (fun r19 => mBd (mGetA 8 5 p0) (fun r20 => mBd (mCk 2 r2 (f_X2_jacobiSum r2 p2 r18 r19 r20)) (fun _ => mBd (mGetA 8 1 p0) (fun r21 => mBd (mGetA 8 4 p0) (fun r22 => mBd (mGetA 8 5 p0) (fun r23 => mBd (mGetA 8 7 p0) (fun r24 => mBd (mCk 5 r21 (f_X5_multiply r21 r22 r23 r24 r6)) (fun _ => mBd (mGetA 8 6 p0) (fun r25 => mBd (mGetA 8 7 p0) (fun r26 => mBd (f_X6_same r25 r26) (fun r27 => (if r27 = 0 then mBd (mCk 8 p0 (f_X10_answered p0 (0 : Int32))) (fun r28 => mRt r28) else mBd (mCk 8 p0 (f_X10_answered p0 (1 : Int32))) (fun r29 => mRt r29)))))))))))))))))))))))))))))) else mBd (mCk 8 p0 (f_X10_refused p0 (1 : Int32) (-1 : Int32))) (fun r30 => mRt r30)))))))
set_option maxRecDepth 100000 in
theorem s_X10_relation {cx : CX} (p0 : (Option Nat)) (p1 : Int32) (p2 : Int32) (p3 : Int32) (p4 : Int32) : Sn cx m_X10_relation eI 0 [(0, vA p0), (1, vI p1), (2, vI p2), (3, vI p3), (4, vI p4)] [] (f_X10_relation p0 p1 p2 p3 p4) := by
  refine sn_aload_n (y := m_X10_relation) (pc := 0) dX10_relation_0 rfl ?_
  refine sn_getA (y := m_X10_relation) (pc := 1) ca_8 rfl fk_X10_53 (fun _ _ _ => rfl) dX10_relation_1 (fun r1 => ?_)
  refine sn_iload_n (y := m_X10_relation) (pc := 4) dX10_relation_4 rfl ?_
  refine sn_invV (y := m_X10_relation) (pc := 5) ca_0 (av := [vI p1]) (o := r1) (st := []) dX10_relation_5 lk_X10_111 im_X0_fieldAt se_X0_fieldAt rfl rfl rfl rfl ⟨by decide, by decide⟩ (c_X0_fieldAt cx.1 r1 p1) (fun r2 => ?_)
  refine sn_astore (y := m_X10_relation) (pc := 8) dX10_relation_8 rfl ?_
  refine sn_aload (y := m_X10_relation) (pc := 10) dX10_relation_10 rfl ?_
  refine sn_iload_n (y := m_X10_relation) (pc := 12) dX10_relation_12 rfl ?_
  refine sn_iload_n (y := m_X10_relation) (pc := 13) dX10_relation_13 rfl ?_
  refine sn_invS (y := m_X10_relation) (pc := 14) (av := [vA r2, vI p2, vI p3]) (st := []) dX10_relation_14 lk_X10_144 sw_X10_hasSum rfl rfl rfl ⟨by decide, by decide⟩ (c_X10_hasSum cx.1 r2 p2 p3) (fun r3 => ?_)
  refine sn_if_eq (y := m_X10_relation) (pc := 17) (tgt := 30) dX10_relation_17 (by decide) (fun _ => ?_) (fun _ => ?_)
  · refine sn_aload_n (y := m_X10_relation) (pc := 30) dX10_relation_30 rfl ?_
    refine sn_iconst (y := m_X10_relation) (pc := 31) dX10_relation_31 kc_iconst_1 ?_
    refine sn_iconst (y := m_X10_relation) (pc := 32) dX10_relation_32 kc_iconst_m1 ?_
    refine sn_invV (y := m_X10_relation) (pc := 33) ca_8 (av := [vI (1 : Int32), vI (-1 : Int32)]) (o := p0) (st := []) dX10_relation_33 lk_X10_85 im_X10_refused se_X10_refused rfl rfl rfl rfl ⟨by decide, by decide⟩ (c_X10_refused cx.1 p0 (1 : Int32) (-1 : Int32)) (fun r4 => ?_)
    exact sn_ireturn rfl dX10_relation_36
  refine sn_aload (y := m_X10_relation) (pc := 20) dX10_relation_20 rfl ?_
  refine sn_iload (y := m_X10_relation) (pc := 22) dX10_relation_22 rfl ?_
  refine sn_invV (y := m_X10_relation) (pc := 24) ca_2 (av := [vI p4]) (o := r2) (st := []) dX10_relation_24 lk_X10_135 im_X2_hasCharacter se_X2_hasCharacter rfl rfl rfl rfl ⟨by decide, by decide⟩ (c_X2_hasCharacter cx.1 r2 p4) (fun r5 => ?_)
  refine sn_if_ne (y := m_X10_relation) (pc := 27) (tgt := 37) dX10_relation_27 (by decide) (fun _ => ?_) (fun _ => ?_)
  · refine sn_aload (y := m_X10_relation) (pc := 37) dX10_relation_37 rfl ?_
    refine sn_invV (y := m_X10_relation) (pc := 39) ca_2 (av := []) (o := r2) (st := []) dX10_relation_39 lk_X10_120 im_X2_order se_X2_order rfl rfl rfl rfl ⟨by decide, by decide⟩ (c_X2_order cx.1 r2) (fun r6 => ?_)
    refine sn_istore (y := m_X10_relation) (pc := 42) dX10_relation_42 rfl ?_
    refine sn_aload (y := m_X10_relation) (pc := 44) dX10_relation_44 rfl ?_
    refine sn_iload_n (y := m_X10_relation) (pc := 46) dX10_relation_46 rfl ?_
    refine sn_iload_n (y := m_X10_relation) (pc := 47) dX10_relation_47 rfl ?_
    refine sn_aload_n (y := m_X10_relation) (pc := 48) dX10_relation_48 rfl ?_
    refine sn_getA (y := m_X10_relation) (pc := 49) ca_8 rfl fk_X10_19 (fun _ _ _ => rfl) dX10_relation_49 (fun r7 => ?_)
    refine sn_aload_n (y := m_X10_relation) (pc := 52) dX10_relation_52 rfl ?_
    refine sn_getA (y := m_X10_relation) (pc := 53) ca_8 rfl fk_X10_37 (fun _ _ _ => rfl) dX10_relation_53 (fun r8 => ?_)
    refine sn_invV (y := m_X10_relation) (pc := 56) ca_2 (av := [vI p2, vI p3, vA r7, vA r8]) (o := r2) (st := []) dX10_relation_56 lk_X10_148 im_X2_jacobiSum se_X2_jacobiSum rfl rfl rfl rfl ⟨by decide, by decide⟩ (c_X2_jacobiSum cx.1 r2 p2 p3 r7 r8) (fun _ => ?_)
    refine sn_aload (y := m_X10_relation) (pc := 59) dX10_relation_59 rfl ?_
    refine sn_iload_n (y := m_X10_relation) (pc := 61) dX10_relation_61 rfl ?_
    refine sn_iload_n (y := m_X10_relation) (pc := 62) dX10_relation_62 rfl ?_
    refine sn_iadd (y := m_X10_relation) (pc := 63) dX10_relation_63 ?_
    refine sn_i2l (y := m_X10_relation) (pc := 64) dX10_relation_64 ?_
    refine sn_iload (y := m_X10_relation) (pc := 65) dX10_relation_65 rfl ?_
    refine sn_invS (y := m_X10_relation) (pc := 67) (av := [vJ ((p2 + p3).toInt64), vI r6]) (st := [vA r2]) dX10_relation_67 lk_X10_170 sw_X6_mod rfl rfl rfl ⟨by decide, by decide⟩ (c_X6_mod cx.1 ((p2 + p3).toInt64) r6) (fun r9 => ?_)
    refine sn_iload (y := m_X10_relation) (pc := 70) dX10_relation_70 rfl ?_
    refine sn_aload_n (y := m_X10_relation) (pc := 72) dX10_relation_72 rfl ?_
    refine sn_getA (y := m_X10_relation) (pc := 73) ca_8 rfl fk_X10_19 (fun _ _ _ => rfl) dX10_relation_73 (fun r10 => ?_)
    refine sn_aload_n (y := m_X10_relation) (pc := 76) dX10_relation_76 rfl ?_
    refine sn_getA (y := m_X10_relation) (pc := 77) ca_8 rfl fk_X10_41 (fun _ _ _ => rfl) dX10_relation_77 (fun r11 => ?_)
    refine sn_invV (y := m_X10_relation) (pc := 80) ca_2 (av := [vI r9, vI p4, vA r10, vA r11]) (o := r2) (st := []) dX10_relation_80 lk_X10_148 im_X2_jacobiSum se_X2_jacobiSum rfl rfl rfl rfl ⟨by decide, by decide⟩ (c_X2_jacobiSum cx.1 r2 r9 p4 r10 r11) (fun _ => ?_)
    refine sn_aload_n (y := m_X10_relation) (pc := 83) dX10_relation_83 rfl ?_
    refine sn_getA (y := m_X10_relation) (pc := 84) ca_8 rfl fk_X10_19 (fun _ _ _ => rfl) dX10_relation_84 (fun r12 => ?_)
    refine sn_aload_n (y := m_X10_relation) (pc := 87) dX10_relation_87 rfl ?_
    refine sn_getA (y := m_X10_relation) (pc := 88) ca_8 rfl fk_X10_37 (fun _ _ _ => rfl) dX10_relation_88 (fun r13 => ?_)
    refine sn_aload_n (y := m_X10_relation) (pc := 91) dX10_relation_91 rfl ?_
    refine sn_getA (y := m_X10_relation) (pc := 92) ca_8 rfl fk_X10_41 (fun _ _ _ => rfl) dX10_relation_92 (fun r14 => ?_)
    refine sn_aload_n (y := m_X10_relation) (pc := 95) dX10_relation_95 rfl ?_
    refine sn_getA (y := m_X10_relation) (pc := 96) ca_8 rfl fk_X10_44 (fun _ _ _ => rfl) dX10_relation_96 (fun r15 => ?_)
    refine sn_iload (y := m_X10_relation) (pc := 99) dX10_relation_99 rfl ?_
    refine sn_invV (y := m_X10_relation) (pc := 101) ca_5 (av := [vA r13, vA r14, vA r15, vI r6]) (o := r12) (st := []) dX10_relation_101 lk_X10_162 im_X5_multiply se_X5_multiply rfl rfl rfl rfl ⟨by decide, by decide⟩ (c_X5_multiply cx.1 r12 r13 r14 r15 r6) (fun _ => ?_)
    refine sn_aload (y := m_X10_relation) (pc := 104) dX10_relation_104 rfl ?_
    refine sn_iload_n (y := m_X10_relation) (pc := 106) dX10_relation_106 rfl ?_
    refine sn_iload (y := m_X10_relation) (pc := 107) dX10_relation_107 rfl ?_
    refine sn_aload_n (y := m_X10_relation) (pc := 109) dX10_relation_109 rfl ?_
    refine sn_getA (y := m_X10_relation) (pc := 110) ca_8 rfl fk_X10_19 (fun _ _ _ => rfl) dX10_relation_110 (fun r16 => ?_)
    refine sn_aload_n (y := m_X10_relation) (pc := 113) dX10_relation_113 rfl ?_
    refine sn_getA (y := m_X10_relation) (pc := 114) ca_8 rfl fk_X10_37 (fun _ _ _ => rfl) dX10_relation_114 (fun r17 => ?_)
    refine sn_invV (y := m_X10_relation) (pc := 117) ca_2 (av := [vI p3, vI p4, vA r16, vA r17]) (o := r2) (st := []) dX10_relation_117 lk_X10_148 im_X2_jacobiSum se_X2_jacobiSum rfl rfl rfl rfl ⟨by decide, by decide⟩ (c_X2_jacobiSum cx.1 r2 p3 p4 r16 r17) (fun _ => ?_)
    refine sn_aload (y := m_X10_relation) (pc := 120) dX10_relation_120 rfl ?_
    refine sn_iload_n (y := m_X10_relation) (pc := 122) dX10_relation_122 rfl ?_
    refine sn_iload_n (y := m_X10_relation) (pc := 123) dX10_relation_123 rfl ?_
    refine sn_iload (y := m_X10_relation) (pc := 124) dX10_relation_124 rfl ?_
    refine sn_iadd (y := m_X10_relation) (pc := 126) dX10_relation_126 ?_
    refine sn_i2l (y := m_X10_relation) (pc := 127) dX10_relation_127 ?_
    refine sn_iload (y := m_X10_relation) (pc := 128) dX10_relation_128 rfl ?_
    refine sn_invS (y := m_X10_relation) (pc := 130) (av := [vJ ((p3 + p4).toInt64), vI r6]) (st := [vI p2, vA r2]) dX10_relation_130 lk_X10_170 sw_X6_mod rfl rfl rfl ⟨by decide, by decide⟩ (c_X6_mod cx.1 ((p3 + p4).toInt64) r6) (fun r18 => ?_)
    refine sn_aload_n (y := m_X10_relation) (pc := 133) dX10_relation_133 rfl ?_
    refine sn_getA (y := m_X10_relation) (pc := 134) ca_8 rfl fk_X10_19 (fun _ _ _ => rfl) dX10_relation_134 (fun r19 => ?_)
    refine sn_aload_n (y := m_X10_relation) (pc := 137) dX10_relation_137 rfl ?_
    refine sn_getA (y := m_X10_relation) (pc := 138) ca_8 rfl fk_X10_41 (fun _ _ _ => rfl) dX10_relation_138 (fun r20 => ?_)
    refine sn_invV (y := m_X10_relation) (pc := 141) ca_2 (av := [vI p2, vI r18, vA r19, vA r20]) (o := r2) (st := []) dX10_relation_141 lk_X10_148 im_X2_jacobiSum se_X2_jacobiSum rfl rfl rfl rfl ⟨by decide, by decide⟩ (c_X2_jacobiSum cx.1 r2 p2 r18 r19 r20) (fun _ => ?_)
    refine sn_aload_n (y := m_X10_relation) (pc := 144) dX10_relation_144 rfl ?_
    refine sn_getA (y := m_X10_relation) (pc := 145) ca_8 rfl fk_X10_19 (fun _ _ _ => rfl) dX10_relation_145 (fun r21 => ?_)
    refine sn_aload_n (y := m_X10_relation) (pc := 148) dX10_relation_148 rfl ?_
    refine sn_getA (y := m_X10_relation) (pc := 149) ca_8 rfl fk_X10_37 (fun _ _ _ => rfl) dX10_relation_149 (fun r22 => ?_)
    refine sn_aload_n (y := m_X10_relation) (pc := 152) dX10_relation_152 rfl ?_
    refine sn_getA (y := m_X10_relation) (pc := 153) ca_8 rfl fk_X10_41 (fun _ _ _ => rfl) dX10_relation_153 (fun r23 => ?_)
    refine sn_aload_n (y := m_X10_relation) (pc := 156) dX10_relation_156 rfl ?_
    refine sn_getA (y := m_X10_relation) (pc := 157) ca_8 rfl fk_X10_47 (fun _ _ _ => rfl) dX10_relation_157 (fun r24 => ?_)
    refine sn_iload (y := m_X10_relation) (pc := 160) dX10_relation_160 rfl ?_
    refine sn_invV (y := m_X10_relation) (pc := 162) ca_5 (av := [vA r22, vA r23, vA r24, vI r6]) (o := r21) (st := []) dX10_relation_162 lk_X10_162 im_X5_multiply se_X5_multiply rfl rfl rfl rfl ⟨by decide, by decide⟩ (c_X5_multiply cx.1 r21 r22 r23 r24 r6) (fun _ => ?_)
    refine sn_aload_n (y := m_X10_relation) (pc := 165) dX10_relation_165 rfl ?_
    refine sn_aload_n (y := m_X10_relation) (pc := 166) dX10_relation_166 rfl ?_
    refine sn_getA (y := m_X10_relation) (pc := 167) ca_8 rfl fk_X10_44 (fun _ _ _ => rfl) dX10_relation_167 (fun r25 => ?_)
    refine sn_aload_n (y := m_X10_relation) (pc := 170) dX10_relation_170 rfl ?_
    refine sn_getA (y := m_X10_relation) (pc := 171) ca_8 rfl fk_X10_47 (fun _ _ _ => rfl) dX10_relation_171 (fun r26 => ?_)
    refine sn_invS (y := m_X10_relation) (pc := 174) (av := [vA r25, vA r26]) (st := [vA p0]) dX10_relation_174 lk_X10_174 sw_X6_same rfl rfl rfl ⟨by decide, by decide⟩ (c_X6_same cx.1 r25 r26) (fun r27 => ?_)
    refine sn_if_eq (y := m_X10_relation) (pc := 177) (tgt := 184) dX10_relation_177 (by decide) (fun _ => ?_) (fun _ => ?_)
    · refine sn_iconst (y := m_X10_relation) (pc := 184) dX10_relation_184 kc_iconst_0 ?_
      refine sn_invV (y := m_X10_relation) (pc := 185) ca_8 (av := [vI (0 : Int32)]) (o := p0) (st := []) dX10_relation_185 lk_X10_108 im_X10_answered se_X10_answered rfl rfl rfl rfl ⟨by decide, by decide⟩ (c_X10_answered cx.1 p0 (0 : Int32)) (fun r28 => ?_)
      exact sn_ireturn rfl dX10_relation_188
    refine sn_iconst (y := m_X10_relation) (pc := 180) dX10_relation_180 kc_iconst_1 ?_
    refine sn_goto (y := m_X10_relation) (pc := 181) (tgt := 185) dX10_relation_181 (by decide) ?_
    refine sn_invV (y := m_X10_relation) (pc := 185) ca_8 (av := [vI (1 : Int32)]) (o := p0) (st := []) dX10_relation_185 lk_X10_108 im_X10_answered se_X10_answered rfl rfl rfl rfl ⟨by decide, by decide⟩ (c_X10_answered cx.1 p0 (1 : Int32)) (fun r29 => ?_)
    exact sn_ireturn rfl dX10_relation_188
  refine sn_aload_n (y := m_X10_relation) (pc := 30) dX10_relation_30 rfl ?_
  refine sn_iconst (y := m_X10_relation) (pc := 31) dX10_relation_31 kc_iconst_1 ?_
  refine sn_iconst (y := m_X10_relation) (pc := 32) dX10_relation_32 kc_iconst_m1 ?_
  refine sn_invV (y := m_X10_relation) (pc := 33) ca_8 (av := [vI (1 : Int32), vI (-1 : Int32)]) (o := p0) (st := []) dX10_relation_33 lk_X10_85 im_X10_refused se_X10_refused rfl rfl rfl rfl ⟨by decide, by decide⟩ (c_X10_refused cx.1 p0 (1 : Int32) (-1 : Int32)) (fun r30 => ?_)
  exact sn_ireturn rfl dX10_relation_36
set_option maxRecDepth 100000 in
theorem c_X10_relation (g : Gl) (p0 : (Option Nat)) (p1 : Int32) (p2 : Int32) (p3 : Int32) (p4 : Int32) : Cn g m_X10_relation eI [vA p0, vI p1, vI p2, vI p3, vI p4] (mCk 8 p0 (f_X10_relation p0 p1 p2 p3 p4)) := cn_of_sn (by decide +kernel) rfl (fun r => ⟨r, rfl⟩) rfl (fun _ _ => sn_ck (s_X10_relation p0 p1 p2 p3 p4))
/-! X10_part -/
def f_X10_part (p0 : (Option Nat)) (p1 : Int32) (p2 : Int32) (p3 : Int32) (p4 : Int32) : Mo Int32 :=
  mBd (mGetA 8 8 p0) (fun r1 => mBd (mCk 0 r1 (f_X0_fieldAt r1 p1)) (fun r2 => mBd (f_X10_hasSum r2 p2 p3) (fun r3 => (if ¬ r3 = 0 then mBd (mCk 2 r2 (f_X2_hasTurn r2 p4)) (fun r4 => (if ¬ r4 = 0 then mBd (mGetA 8 1 p0) (fun r5 => mBd (mGetA 8 4 p0) (fun r6 => mBd (mCk 2 r2 (f_X2_jacobiSum r2 p2 p3 r5 r6)) (fun _ => mBd (mGetA 8 4 p0) (fun r7 => mBd (mCk 2 r2 (f_X2_partOf r2 r7 p4)) (fun r8 => mBd (mCk 8 p0 (f_X10_answered p0 r8)) (fun r9 => mRt r9)))))) else mBd (mCk 8 p0 (f_X10_refused p0 (2 : Int32) (-1 : Int32))) (fun r10 => mRt r10))) else mBd (mCk 8 p0 (f_X10_refused p0 (1 : Int32) (-1 : Int32))) (fun r11 => mRt r11)))))
set_option maxRecDepth 100000 in
theorem s_X10_part {cx : CX} (p0 : (Option Nat)) (p1 : Int32) (p2 : Int32) (p3 : Int32) (p4 : Int32) : Sn cx m_X10_part eI 0 [(0, vA p0), (1, vI p1), (2, vI p2), (3, vI p3), (4, vI p4)] [] (f_X10_part p0 p1 p2 p3 p4) := by
  refine sn_aload_n (y := m_X10_part) (pc := 0) dX10_part_0 rfl ?_
  refine sn_getA (y := m_X10_part) (pc := 1) ca_8 rfl fk_X10_53 (fun _ _ _ => rfl) dX10_part_1 (fun r1 => ?_)
  refine sn_iload_n (y := m_X10_part) (pc := 4) dX10_part_4 rfl ?_
  refine sn_invV (y := m_X10_part) (pc := 5) ca_0 (av := [vI p1]) (o := r1) (st := []) dX10_part_5 lk_X10_111 im_X0_fieldAt se_X0_fieldAt rfl rfl rfl rfl ⟨by decide, by decide⟩ (c_X0_fieldAt cx.1 r1 p1) (fun r2 => ?_)
  refine sn_astore (y := m_X10_part) (pc := 8) dX10_part_8 rfl ?_
  refine sn_aload (y := m_X10_part) (pc := 10) dX10_part_10 rfl ?_
  refine sn_iload_n (y := m_X10_part) (pc := 12) dX10_part_12 rfl ?_
  refine sn_iload_n (y := m_X10_part) (pc := 13) dX10_part_13 rfl ?_
  refine sn_invS (y := m_X10_part) (pc := 14) (av := [vA r2, vI p2, vI p3]) (st := []) dX10_part_14 lk_X10_144 sw_X10_hasSum rfl rfl rfl ⟨by decide, by decide⟩ (c_X10_hasSum cx.1 r2 p2 p3) (fun r3 => ?_)
  refine sn_if_ne (y := m_X10_part) (pc := 17) (tgt := 27) dX10_part_17 (by decide) (fun _ => ?_) (fun _ => ?_)
  · refine sn_aload (y := m_X10_part) (pc := 27) dX10_part_27 rfl ?_
    refine sn_iload (y := m_X10_part) (pc := 29) dX10_part_29 rfl ?_
    refine sn_invV (y := m_X10_part) (pc := 31) ca_2 (av := [vI p4]) (o := r2) (st := []) dX10_part_31 lk_X10_178 im_X2_hasTurn se_X2_hasTurn rfl rfl rfl rfl ⟨by decide, by decide⟩ (c_X2_hasTurn cx.1 r2 p4) (fun r4 => ?_)
    refine sn_if_ne (y := m_X10_part) (pc := 34) (tgt := 44) dX10_part_34 (by decide) (fun _ => ?_) (fun _ => ?_)
    · refine sn_aload (y := m_X10_part) (pc := 44) dX10_part_44 rfl ?_
      refine sn_iload_n (y := m_X10_part) (pc := 46) dX10_part_46 rfl ?_
      refine sn_iload_n (y := m_X10_part) (pc := 47) dX10_part_47 rfl ?_
      refine sn_aload_n (y := m_X10_part) (pc := 48) dX10_part_48 rfl ?_
      refine sn_getA (y := m_X10_part) (pc := 49) ca_8 rfl fk_X10_19 (fun _ _ _ => rfl) dX10_part_49 (fun r5 => ?_)
      refine sn_aload_n (y := m_X10_part) (pc := 52) dX10_part_52 rfl ?_
      refine sn_getA (y := m_X10_part) (pc := 53) ca_8 rfl fk_X10_37 (fun _ _ _ => rfl) dX10_part_53 (fun r6 => ?_)
      refine sn_invV (y := m_X10_part) (pc := 56) ca_2 (av := [vI p2, vI p3, vA r5, vA r6]) (o := r2) (st := []) dX10_part_56 lk_X10_148 im_X2_jacobiSum se_X2_jacobiSum rfl rfl rfl rfl ⟨by decide, by decide⟩ (c_X2_jacobiSum cx.1 r2 p2 p3 r5 r6) (fun _ => ?_)
      refine sn_aload_n (y := m_X10_part) (pc := 59) dX10_part_59 rfl ?_
      refine sn_aload (y := m_X10_part) (pc := 60) dX10_part_60 rfl ?_
      refine sn_aload_n (y := m_X10_part) (pc := 62) dX10_part_62 rfl ?_
      refine sn_getA (y := m_X10_part) (pc := 63) ca_8 rfl fk_X10_37 (fun _ _ _ => rfl) dX10_part_63 (fun r7 => ?_)
      refine sn_iload (y := m_X10_part) (pc := 66) dX10_part_66 rfl ?_
      refine sn_invV (y := m_X10_part) (pc := 68) ca_2 (av := [vA r7, vI p4]) (o := r2) (st := [vA p0]) dX10_part_68 lk_X10_181 im_X2_partOf se_X2_partOf rfl rfl rfl rfl ⟨by decide, by decide⟩ (c_X2_partOf cx.1 r2 r7 p4) (fun r8 => ?_)
      refine sn_invV (y := m_X10_part) (pc := 71) ca_8 (av := [vI r8]) (o := p0) (st := []) dX10_part_71 lk_X10_108 im_X10_answered se_X10_answered rfl rfl rfl rfl ⟨by decide, by decide⟩ (c_X10_answered cx.1 p0 r8) (fun r9 => ?_)
      exact sn_ireturn rfl dX10_part_74
    refine sn_aload_n (y := m_X10_part) (pc := 37) dX10_part_37 rfl ?_
    refine sn_iconst (y := m_X10_part) (pc := 38) dX10_part_38 kc_iconst_2 ?_
    refine sn_iconst (y := m_X10_part) (pc := 39) dX10_part_39 kc_iconst_m1 ?_
    refine sn_invV (y := m_X10_part) (pc := 40) ca_8 (av := [vI (2 : Int32), vI (-1 : Int32)]) (o := p0) (st := []) dX10_part_40 lk_X10_85 im_X10_refused se_X10_refused rfl rfl rfl rfl ⟨by decide, by decide⟩ (c_X10_refused cx.1 p0 (2 : Int32) (-1 : Int32)) (fun r10 => ?_)
    exact sn_ireturn rfl dX10_part_43
  refine sn_aload_n (y := m_X10_part) (pc := 20) dX10_part_20 rfl ?_
  refine sn_iconst (y := m_X10_part) (pc := 21) dX10_part_21 kc_iconst_1 ?_
  refine sn_iconst (y := m_X10_part) (pc := 22) dX10_part_22 kc_iconst_m1 ?_
  refine sn_invV (y := m_X10_part) (pc := 23) ca_8 (av := [vI (1 : Int32), vI (-1 : Int32)]) (o := p0) (st := []) dX10_part_23 lk_X10_85 im_X10_refused se_X10_refused rfl rfl rfl rfl ⟨by decide, by decide⟩ (c_X10_refused cx.1 p0 (1 : Int32) (-1 : Int32)) (fun r11 => ?_)
  exact sn_ireturn rfl dX10_part_26
set_option maxRecDepth 100000 in
theorem c_X10_part (g : Gl) (p0 : (Option Nat)) (p1 : Int32) (p2 : Int32) (p3 : Int32) (p4 : Int32) : Cn g m_X10_part eI [vA p0, vI p1, vI p2, vI p3, vI p4] (mCk 8 p0 (f_X10_part p0 p1 p2 p3 p4)) := cn_of_sn (by decide +kernel) rfl (fun r => ⟨r, rfl⟩) rfl (fun _ _ => sn_ck (s_X10_part p0 p1 p2 p3 p4))
/-! X10_law -/
def f_X10_law (p0 : (Option Nat)) (p1 : Int32) (p2 : Int32) (p3 : Int32) (p4 : Int32) : Mo Int32 :=
  mBd (mGetA 8 8 p0) (fun r1 => mBd (mCk 0 r1 (f_X0_fieldAt r1 p1)) (fun r2 => mBd (f_X10_hasSum r2 p2 p3) (fun r3 => (if ¬ r3 = 0 then mBd (mCk 2 r2 (f_X2_hasTurn r2 p4)) (fun r4 => (if ¬ r4 = 0 then mBd (mCk 2 r2 (f_X2_order r2)) (fun r5 => (if p2 = 0 then mBd (mCk 8 p0 (f_X10_refused p0 (5 : Int32) (-1 : Int32))) (fun r6 => mRt r6) else (if p3 = 0 then mBd (mCk 8 p0 (f_X10_refused p0 (5 : Int32) (-1 : Int32))) (fun r7 => mRt r7) else (if ¬ (p2 + p3) = r5 then mBd (f_X6_mod ((p4 * p2).toInt64) r5) (fun r8 => mBd (f_X6_mod ((p4 * p3).toInt64) r5) (fun r9 => (if (r8 + r9) ≥ r5 then mBd (mCk 8 p0 (f_X10_answered p0 (0 : Int32))) (fun r10 => mRt r10) else mBd (mCk 8 p0 (f_X10_answered p0 (1 : Int32))) (fun r11 => mRt r11)))) else mBd (mCk 8 p0 (f_X10_refused p0 (5 : Int32) (-1 : Int32))) (fun r12 => mRt r12))))) else mBd (mCk 8 p0 (f_X10_refused p0 (2 : Int32) (-1 : Int32))) (fun r13 => mRt r13))) else mBd (mCk 8 p0 (f_X10_refused p0 (1 : Int32) (-1 : Int32))) (fun r14 => mRt r14)))))
set_option maxRecDepth 100000 in
theorem s_X10_law {cx : CX} (p0 : (Option Nat)) (p1 : Int32) (p2 : Int32) (p3 : Int32) (p4 : Int32) : Sn cx m_X10_law eI 0 [(0, vA p0), (1, vI p1), (2, vI p2), (3, vI p3), (4, vI p4)] [] (f_X10_law p0 p1 p2 p3 p4) := by
  refine sn_aload_n (y := m_X10_law) (pc := 0) dX10_law_0 rfl ?_
  refine sn_getA (y := m_X10_law) (pc := 1) ca_8 rfl fk_X10_53 (fun _ _ _ => rfl) dX10_law_1 (fun r1 => ?_)
  refine sn_iload_n (y := m_X10_law) (pc := 4) dX10_law_4 rfl ?_
  refine sn_invV (y := m_X10_law) (pc := 5) ca_0 (av := [vI p1]) (o := r1) (st := []) dX10_law_5 lk_X10_111 im_X0_fieldAt se_X0_fieldAt rfl rfl rfl rfl ⟨by decide, by decide⟩ (c_X0_fieldAt cx.1 r1 p1) (fun r2 => ?_)
  refine sn_astore (y := m_X10_law) (pc := 8) dX10_law_8 rfl ?_
  refine sn_aload (y := m_X10_law) (pc := 10) dX10_law_10 rfl ?_
  refine sn_iload_n (y := m_X10_law) (pc := 12) dX10_law_12 rfl ?_
  refine sn_iload_n (y := m_X10_law) (pc := 13) dX10_law_13 rfl ?_
  refine sn_invS (y := m_X10_law) (pc := 14) (av := [vA r2, vI p2, vI p3]) (st := []) dX10_law_14 lk_X10_144 sw_X10_hasSum rfl rfl rfl ⟨by decide, by decide⟩ (c_X10_hasSum cx.1 r2 p2 p3) (fun r3 => ?_)
  refine sn_if_ne (y := m_X10_law) (pc := 17) (tgt := 27) dX10_law_17 (by decide) (fun _ => ?_) (fun _ => ?_)
  · refine sn_aload (y := m_X10_law) (pc := 27) dX10_law_27 rfl ?_
    refine sn_iload (y := m_X10_law) (pc := 29) dX10_law_29 rfl ?_
    refine sn_invV (y := m_X10_law) (pc := 31) ca_2 (av := [vI p4]) (o := r2) (st := []) dX10_law_31 lk_X10_178 im_X2_hasTurn se_X2_hasTurn rfl rfl rfl rfl ⟨by decide, by decide⟩ (c_X2_hasTurn cx.1 r2 p4) (fun r4 => ?_)
    refine sn_if_ne (y := m_X10_law) (pc := 34) (tgt := 44) dX10_law_34 (by decide) (fun _ => ?_) (fun _ => ?_)
    · refine sn_aload (y := m_X10_law) (pc := 44) dX10_law_44 rfl ?_
      refine sn_invV (y := m_X10_law) (pc := 46) ca_2 (av := []) (o := r2) (st := []) dX10_law_46 lk_X10_120 im_X2_order se_X2_order rfl rfl rfl rfl ⟨by decide, by decide⟩ (c_X2_order cx.1 r2) (fun r5 => ?_)
      refine sn_istore (y := m_X10_law) (pc := 49) dX10_law_49 rfl ?_
      refine sn_iload_n (y := m_X10_law) (pc := 51) dX10_law_51 rfl ?_
      refine sn_if_eq (y := m_X10_law) (pc := 52) (tgt := 67) dX10_law_52 (by decide) (fun _ => ?_) (fun _ => ?_)
      · refine sn_aload_n (y := m_X10_law) (pc := 67) dX10_law_67 rfl ?_
        refine sn_iconst (y := m_X10_law) (pc := 68) dX10_law_68 kc_iconst_5 ?_
        refine sn_iconst (y := m_X10_law) (pc := 69) dX10_law_69 kc_iconst_m1 ?_
        refine sn_invV (y := m_X10_law) (pc := 70) ca_8 (av := [vI (5 : Int32), vI (-1 : Int32)]) (o := p0) (st := []) dX10_law_70 lk_X10_85 im_X10_refused se_X10_refused rfl rfl rfl rfl ⟨by decide, by decide⟩ (c_X10_refused cx.1 p0 (5 : Int32) (-1 : Int32)) (fun r6 => ?_)
        exact sn_ireturn rfl dX10_law_73
      refine sn_iload_n (y := m_X10_law) (pc := 55) dX10_law_55 rfl ?_
      refine sn_if_eq (y := m_X10_law) (pc := 56) (tgt := 67) dX10_law_56 (by decide) (fun _ => ?_) (fun _ => ?_)
      · refine sn_aload_n (y := m_X10_law) (pc := 67) dX10_law_67 rfl ?_
        refine sn_iconst (y := m_X10_law) (pc := 68) dX10_law_68 kc_iconst_5 ?_
        refine sn_iconst (y := m_X10_law) (pc := 69) dX10_law_69 kc_iconst_m1 ?_
        refine sn_invV (y := m_X10_law) (pc := 70) ca_8 (av := [vI (5 : Int32), vI (-1 : Int32)]) (o := p0) (st := []) dX10_law_70 lk_X10_85 im_X10_refused se_X10_refused rfl rfl rfl rfl ⟨by decide, by decide⟩ (c_X10_refused cx.1 p0 (5 : Int32) (-1 : Int32)) (fun r7 => ?_)
        exact sn_ireturn rfl dX10_law_73
      refine sn_iload_n (y := m_X10_law) (pc := 59) dX10_law_59 rfl ?_
      refine sn_iload_n (y := m_X10_law) (pc := 60) dX10_law_60 rfl ?_
      refine sn_iadd (y := m_X10_law) (pc := 61) dX10_law_61 ?_
      refine sn_iload (y := m_X10_law) (pc := 62) dX10_law_62 rfl ?_
      refine sn_icmp_ne (y := m_X10_law) (pc := 64) (tgt := 74) dX10_law_64 (by decide) (fun _ => ?_) (fun _ => ?_)
      · refine sn_aload_n (y := m_X10_law) (pc := 74) dX10_law_74 rfl ?_
        refine sn_iload (y := m_X10_law) (pc := 75) dX10_law_75 rfl ?_
        refine sn_iload_n (y := m_X10_law) (pc := 77) dX10_law_77 rfl ?_
        refine sn_imul (y := m_X10_law) (pc := 78) dX10_law_78 ?_
        refine sn_i2l (y := m_X10_law) (pc := 79) dX10_law_79 ?_
        refine sn_iload (y := m_X10_law) (pc := 80) dX10_law_80 rfl ?_
        refine sn_invS (y := m_X10_law) (pc := 82) (av := [vJ ((p4 * p2).toInt64), vI r5]) (st := [vA p0]) dX10_law_82 lk_X10_170 sw_X6_mod rfl rfl rfl ⟨by decide, by decide⟩ (c_X6_mod cx.1 ((p4 * p2).toInt64) r5) (fun r8 => ?_)
        refine sn_iload (y := m_X10_law) (pc := 85) dX10_law_85 rfl ?_
        refine sn_iload_n (y := m_X10_law) (pc := 87) dX10_law_87 rfl ?_
        refine sn_imul (y := m_X10_law) (pc := 88) dX10_law_88 ?_
        refine sn_i2l (y := m_X10_law) (pc := 89) dX10_law_89 ?_
        refine sn_iload (y := m_X10_law) (pc := 90) dX10_law_90 rfl ?_
        refine sn_invS (y := m_X10_law) (pc := 92) (av := [vJ ((p4 * p3).toInt64), vI r5]) (st := [vI r8, vA p0]) dX10_law_92 lk_X10_170 sw_X6_mod rfl rfl rfl ⟨by decide, by decide⟩ (c_X6_mod cx.1 ((p4 * p3).toInt64) r5) (fun r9 => ?_)
        refine sn_iadd (y := m_X10_law) (pc := 95) dX10_law_95 ?_
        refine sn_iload (y := m_X10_law) (pc := 96) dX10_law_96 rfl ?_
        refine sn_icmp_ge (y := m_X10_law) (pc := 98) (tgt := 105) dX10_law_98 (by decide) (fun _ => ?_) (fun _ => ?_)
        · refine sn_iconst (y := m_X10_law) (pc := 105) dX10_law_105 kc_iconst_0 ?_
          refine sn_invV (y := m_X10_law) (pc := 106) ca_8 (av := [vI (0 : Int32)]) (o := p0) (st := []) dX10_law_106 lk_X10_108 im_X10_answered se_X10_answered rfl rfl rfl rfl ⟨by decide, by decide⟩ (c_X10_answered cx.1 p0 (0 : Int32)) (fun r10 => ?_)
          exact sn_ireturn rfl dX10_law_109
        refine sn_iconst (y := m_X10_law) (pc := 101) dX10_law_101 kc_iconst_1 ?_
        refine sn_goto (y := m_X10_law) (pc := 102) (tgt := 106) dX10_law_102 (by decide) ?_
        refine sn_invV (y := m_X10_law) (pc := 106) ca_8 (av := [vI (1 : Int32)]) (o := p0) (st := []) dX10_law_106 lk_X10_108 im_X10_answered se_X10_answered rfl rfl rfl rfl ⟨by decide, by decide⟩ (c_X10_answered cx.1 p0 (1 : Int32)) (fun r11 => ?_)
        exact sn_ireturn rfl dX10_law_109
      refine sn_aload_n (y := m_X10_law) (pc := 67) dX10_law_67 rfl ?_
      refine sn_iconst (y := m_X10_law) (pc := 68) dX10_law_68 kc_iconst_5 ?_
      refine sn_iconst (y := m_X10_law) (pc := 69) dX10_law_69 kc_iconst_m1 ?_
      refine sn_invV (y := m_X10_law) (pc := 70) ca_8 (av := [vI (5 : Int32), vI (-1 : Int32)]) (o := p0) (st := []) dX10_law_70 lk_X10_85 im_X10_refused se_X10_refused rfl rfl rfl rfl ⟨by decide, by decide⟩ (c_X10_refused cx.1 p0 (5 : Int32) (-1 : Int32)) (fun r12 => ?_)
      exact sn_ireturn rfl dX10_law_73
    refine sn_aload_n (y := m_X10_law) (pc := 37) dX10_law_37 rfl ?_
    refine sn_iconst (y := m_X10_law) (pc := 38) dX10_law_38 kc_iconst_2 ?_
    refine sn_iconst (y := m_X10_law) (pc := 39) dX10_law_39 kc_iconst_m1 ?_
    refine sn_invV (y := m_X10_law) (pc := 40) ca_8 (av := [vI (2 : Int32), vI (-1 : Int32)]) (o := p0) (st := []) dX10_law_40 lk_X10_85 im_X10_refused se_X10_refused rfl rfl rfl rfl ⟨by decide, by decide⟩ (c_X10_refused cx.1 p0 (2 : Int32) (-1 : Int32)) (fun r13 => ?_)
    exact sn_ireturn rfl dX10_law_43
  refine sn_aload_n (y := m_X10_law) (pc := 20) dX10_law_20 rfl ?_
  refine sn_iconst (y := m_X10_law) (pc := 21) dX10_law_21 kc_iconst_1 ?_
  refine sn_iconst (y := m_X10_law) (pc := 22) dX10_law_22 kc_iconst_m1 ?_
  refine sn_invV (y := m_X10_law) (pc := 23) ca_8 (av := [vI (1 : Int32), vI (-1 : Int32)]) (o := p0) (st := []) dX10_law_23 lk_X10_85 im_X10_refused se_X10_refused rfl rfl rfl rfl ⟨by decide, by decide⟩ (c_X10_refused cx.1 p0 (1 : Int32) (-1 : Int32)) (fun r14 => ?_)
  exact sn_ireturn rfl dX10_law_26
set_option maxRecDepth 100000 in
theorem c_X10_law (g : Gl) (p0 : (Option Nat)) (p1 : Int32) (p2 : Int32) (p3 : Int32) (p4 : Int32) : Cn g m_X10_law eI [vA p0, vI p1, vI p2, vI p3, vI p4] (mCk 8 p0 (f_X10_law p0 p1 p2 p3 p4)) := cn_of_sn (by decide +kernel) rfl (fun r => ⟨r, rfl⟩) rfl (fun _ _ => sn_ck (s_X10_law p0 p1 p2 p3 p4))
/-! X10_parts -/
def f_X10_parts_b48 (x0 : (Option Nat)) (x4 : (Option Nat)) (k48 : Int32 → Int32 → Mo Int32) (x5 : Int32) (x6 : Int32) : Mo Int32 :=
  mBd (mCk 2 x4 (f_X2_order x4)) (fun r6 => (if x6 ≥ r6 then mBd (mCk 8 x0 (f_X10_answered x0 x5)) (fun r7 => mRt r7) else mBd (mCk 2 x4 (f_X2_hasTurn x4 x6)) (fun r8 => (if r8 = 0 then k48 x5 (x6 + 1) else mBd (mGetA 8 4 x0) (fun r9 => mBd (mCk 2 x4 (f_X2_partOf x4 r9 x6)) (fun r10 => (if ¬ r10 = 0 then k48 x5 (x6 + 1) else k48 (x5 + 1) (x6 + 1))))))))
def f_X10_parts_l48 (x0 : (Option Nat)) (x4 : (Option Nat)) : Int32 → Int32 → Mo Int32 := lq2 (f_X10_parts_b48 x0 x4) fuel
set_option maxRecDepth 100000 in
theorem s_X10_parts_b48 {cx : CX} (x0 : (Option Nat)) (x4 : (Option Nat)) {k48 : Int32 → Int32 → Mo Int32} (hk48 : ∀ (z5 : Int32) (z6 : Int32), Sn cx m_X10_parts eI 48 [(5, vI z5), (6, vI z6), (0, vA x0), (4, vA x4)] [] (k48 z5 z6)) (x5 : Int32) (x6 : Int32) : Sn cx m_X10_parts eI 48 [(5, vI x5), (6, vI x6), (0, vA x0), (4, vA x4)] [] (f_X10_parts_b48 x0 x4 k48 x5 x6) := by
  refine sn_iload (y := m_X10_parts) (pc := 48) dX10_parts_48 rfl ?_
  refine sn_aload (y := m_X10_parts) (pc := 50) dX10_parts_50 rfl ?_
  refine sn_invV (y := m_X10_parts) (pc := 52) ca_2 (av := []) (o := x4) (st := [vI x6]) dX10_parts_52 lk_X10_120 im_X2_order se_X2_order rfl rfl rfl rfl ⟨by decide, by decide⟩ (c_X2_order cx.1 x4) (fun r6 => ?_)
  refine sn_icmp_ge (y := m_X10_parts) (pc := 55) (tgt := 91) dX10_parts_55 (by decide) (fun _ => ?_) (fun _ => ?_)
  · refine sn_aload_n (y := m_X10_parts) (pc := 91) dX10_parts_91 rfl ?_
    refine sn_iload (y := m_X10_parts) (pc := 92) dX10_parts_92 rfl ?_
    refine sn_invV (y := m_X10_parts) (pc := 94) ca_8 (av := [vI x5]) (o := x0) (st := []) dX10_parts_94 lk_X10_108 im_X10_answered se_X10_answered rfl rfl rfl rfl ⟨by decide, by decide⟩ (c_X10_answered cx.1 x0 x5) (fun r7 => ?_)
    exact sn_ireturn rfl dX10_parts_97
  refine sn_aload (y := m_X10_parts) (pc := 58) dX10_parts_58 rfl ?_
  refine sn_iload (y := m_X10_parts) (pc := 60) dX10_parts_60 rfl ?_
  refine sn_invV (y := m_X10_parts) (pc := 62) ca_2 (av := [vI x6]) (o := x4) (st := []) dX10_parts_62 lk_X10_178 im_X2_hasTurn se_X2_hasTurn rfl rfl rfl rfl ⟨by decide, by decide⟩ (c_X2_hasTurn cx.1 x4 x6) (fun r8 => ?_)
  refine sn_if_eq (y := m_X10_parts) (pc := 65) (tgt := 85) dX10_parts_65 (by decide) (fun _ => ?_) (fun _ => ?_)
  · refine sn_iinc (y := m_X10_parts) (pc := 85) (v := x6 + 1) dX10_parts_85 rfl (by rfl) rfl ?_
    refine sn_goto (y := m_X10_parts) (pc := 88) (tgt := 48) dX10_parts_88 (by decide) ?_
    exact sn_sub rfl (hk48 x5 (x6 + 1))
  refine sn_aload (y := m_X10_parts) (pc := 68) dX10_parts_68 rfl ?_
  refine sn_aload_n (y := m_X10_parts) (pc := 70) dX10_parts_70 rfl ?_
  refine sn_getA (y := m_X10_parts) (pc := 71) ca_8 rfl fk_X10_37 (fun _ _ _ => rfl) dX10_parts_71 (fun r9 => ?_)
  refine sn_iload (y := m_X10_parts) (pc := 74) dX10_parts_74 rfl ?_
  refine sn_invV (y := m_X10_parts) (pc := 76) ca_2 (av := [vA r9, vI x6]) (o := x4) (st := []) dX10_parts_76 lk_X10_181 im_X2_partOf se_X2_partOf rfl rfl rfl rfl ⟨by decide, by decide⟩ (c_X2_partOf cx.1 x4 r9 x6) (fun r10 => ?_)
  refine sn_if_ne (y := m_X10_parts) (pc := 79) (tgt := 85) dX10_parts_79 (by decide) (fun _ => ?_) (fun _ => ?_)
  · refine sn_iinc (y := m_X10_parts) (pc := 85) (v := x6 + 1) dX10_parts_85 rfl (by rfl) rfl ?_
    refine sn_goto (y := m_X10_parts) (pc := 88) (tgt := 48) dX10_parts_88 (by decide) ?_
    exact sn_sub rfl (hk48 x5 (x6 + 1))
  refine sn_iinc (y := m_X10_parts) (pc := 82) (v := x5 + 1) dX10_parts_82 rfl (by rfl) rfl ?_
  refine sn_iinc (y := m_X10_parts) (pc := 85) (v := x6 + 1) dX10_parts_85 rfl (by rfl) rfl ?_
  refine sn_goto (y := m_X10_parts) (pc := 88) (tgt := 48) dX10_parts_88 (by decide) ?_
  exact sn_sub rfl (hk48 (x5 + 1) (x6 + 1))
set_option maxRecDepth 100000 in
theorem s_X10_parts_l48 {cx : CX} (x0 : (Option Nat)) (x4 : (Option Nat)) (x5 : Int32) (x6 : Int32) : Sn cx m_X10_parts eI 48 [(5, vI x5), (6, vI x6), (0, vA x0), (4, vA x4)] [] (f_X10_parts_l48 x0 x4 x5 x6) :=
  sn_lq2 (L := fun x5 x6 => [(5, vI x5), (6, vI x6), (0, vA x0), (4, vA x4)]) (fun k hk x5 x6 => s_X10_parts_b48 x0 x4 hk x5 x6) fuel x5 x6
def f_X10_parts (p0 : (Option Nat)) (p1 : Int32) (p2 : Int32) (p3 : Int32) : Mo Int32 :=
  mBd (mGetA 8 8 p0) (fun r1 => mBd (mCk 0 r1 (f_X0_fieldAt r1 p1)) (fun r2 => mBd (f_X10_hasSum r2 p2 p3) (fun r3 => (if ¬ r3 = 0 then mBd (mGetA 8 1 p0) (fun r4 => mBd (mGetA 8 4 p0) (fun r5 => mBd (mCk 2 r2 (f_X2_jacobiSum r2 p2 p3 r4 r5)) (fun _ => f_X10_parts_l48 p0 r2 (0 : Int32) (1 : Int32)))) else mBd (mCk 8 p0 (f_X10_refused p0 (1 : Int32) (-1 : Int32))) (fun r11 => mRt r11)))))
set_option maxRecDepth 100000 in
theorem s_X10_parts {cx : CX} (p0 : (Option Nat)) (p1 : Int32) (p2 : Int32) (p3 : Int32) : Sn cx m_X10_parts eI 0 [(0, vA p0), (1, vI p1), (2, vI p2), (3, vI p3)] [] (f_X10_parts p0 p1 p2 p3) := by
  refine sn_aload_n (y := m_X10_parts) (pc := 0) dX10_parts_0 rfl ?_
  refine sn_getA (y := m_X10_parts) (pc := 1) ca_8 rfl fk_X10_53 (fun _ _ _ => rfl) dX10_parts_1 (fun r1 => ?_)
  refine sn_iload_n (y := m_X10_parts) (pc := 4) dX10_parts_4 rfl ?_
  refine sn_invV (y := m_X10_parts) (pc := 5) ca_0 (av := [vI p1]) (o := r1) (st := []) dX10_parts_5 lk_X10_111 im_X0_fieldAt se_X0_fieldAt rfl rfl rfl rfl ⟨by decide, by decide⟩ (c_X0_fieldAt cx.1 r1 p1) (fun r2 => ?_)
  refine sn_astore (y := m_X10_parts) (pc := 8) dX10_parts_8 rfl ?_
  refine sn_aload (y := m_X10_parts) (pc := 10) dX10_parts_10 rfl ?_
  refine sn_iload_n (y := m_X10_parts) (pc := 12) dX10_parts_12 rfl ?_
  refine sn_iload_n (y := m_X10_parts) (pc := 13) dX10_parts_13 rfl ?_
  refine sn_invS (y := m_X10_parts) (pc := 14) (av := [vA r2, vI p2, vI p3]) (st := []) dX10_parts_14 lk_X10_144 sw_X10_hasSum rfl rfl rfl ⟨by decide, by decide⟩ (c_X10_hasSum cx.1 r2 p2 p3) (fun r3 => ?_)
  refine sn_if_ne (y := m_X10_parts) (pc := 17) (tgt := 27) dX10_parts_17 (by decide) (fun _ => ?_) (fun _ => ?_)
  · refine sn_aload (y := m_X10_parts) (pc := 27) dX10_parts_27 rfl ?_
    refine sn_iload_n (y := m_X10_parts) (pc := 29) dX10_parts_29 rfl ?_
    refine sn_iload_n (y := m_X10_parts) (pc := 30) dX10_parts_30 rfl ?_
    refine sn_aload_n (y := m_X10_parts) (pc := 31) dX10_parts_31 rfl ?_
    refine sn_getA (y := m_X10_parts) (pc := 32) ca_8 rfl fk_X10_19 (fun _ _ _ => rfl) dX10_parts_32 (fun r4 => ?_)
    refine sn_aload_n (y := m_X10_parts) (pc := 35) dX10_parts_35 rfl ?_
    refine sn_getA (y := m_X10_parts) (pc := 36) ca_8 rfl fk_X10_37 (fun _ _ _ => rfl) dX10_parts_36 (fun r5 => ?_)
    refine sn_invV (y := m_X10_parts) (pc := 39) ca_2 (av := [vI p2, vI p3, vA r4, vA r5]) (o := r2) (st := []) dX10_parts_39 lk_X10_148 im_X2_jacobiSum se_X2_jacobiSum rfl rfl rfl rfl ⟨by decide, by decide⟩ (c_X2_jacobiSum cx.1 r2 p2 p3 r4 r5) (fun _ => ?_)
    refine sn_iconst (y := m_X10_parts) (pc := 42) dX10_parts_42 kc_iconst_0 ?_
    refine sn_istore (y := m_X10_parts) (pc := 43) dX10_parts_43 rfl ?_
    refine sn_iconst (y := m_X10_parts) (pc := 45) dX10_parts_45 kc_iconst_1 ?_
    refine sn_istore (y := m_X10_parts) (pc := 46) dX10_parts_46 rfl ?_
    exact sn_sub rfl (s_X10_parts_l48 p0 r2 (0 : Int32) (1 : Int32))
  refine sn_aload_n (y := m_X10_parts) (pc := 20) dX10_parts_20 rfl ?_
  refine sn_iconst (y := m_X10_parts) (pc := 21) dX10_parts_21 kc_iconst_1 ?_
  refine sn_iconst (y := m_X10_parts) (pc := 22) dX10_parts_22 kc_iconst_m1 ?_
  refine sn_invV (y := m_X10_parts) (pc := 23) ca_8 (av := [vI (1 : Int32), vI (-1 : Int32)]) (o := p0) (st := []) dX10_parts_23 lk_X10_85 im_X10_refused se_X10_refused rfl rfl rfl rfl ⟨by decide, by decide⟩ (c_X10_refused cx.1 p0 (1 : Int32) (-1 : Int32)) (fun r11 => ?_)
  exact sn_ireturn rfl dX10_parts_26
set_option maxRecDepth 100000 in
theorem c_X10_parts (g : Gl) (p0 : (Option Nat)) (p1 : Int32) (p2 : Int32) (p3 : Int32) : Cn g m_X10_parts eI [vA p0, vI p1, vI p2, vI p3] (mCk 8 p0 (f_X10_parts p0 p1 p2 p3)) := cn_of_sn (by decide +kernel) rfl (fun r => ⟨r, rfl⟩) rfl (fun _ _ => sn_ck (s_X10_parts p0 p1 p2 p3))
/-! X10_let -/
def f_X10_let (p0 : (Option Nat)) (p1 : Int32) (p2 : Int32) : Mo Int32 :=
  mBd (mGetA 8 8 p0) (fun r1 => mBd (mGetA 8 8 p0) (fun r2 => mBd (mCk 0 r2 (f_X0_letFieldAt r2 p1)) (fun r3 => mBd (mCk 0 r1 (f_X0_fieldAt r1 r3)) (fun r4 => (if r4 = none then mBd (mCk 8 p0 (f_X10_refused p0 (1 : Int32) (-1000000000 : Int32))) (fun r5 => mRt r5) else (if p2 < 0 then mBd (mCk 8 p0 (f_X10_refused p0 (1 : Int32) (-1000000000 : Int32))) (fun r6 => mRt r6) else mBd (mCk 2 r4 (f_X2_rowLength r4)) (fun r7 => (if p2 < r7 then mBd (mGetA 8 8 p0) (fun r8 => mBd (mCk 0 r8 (f_X0_letRowAt r8 p1)) (fun r9 => mBd (f_X6_at r9 p2) (fun r10 => mBd (mCk 8 p0 (f_X10_answered p0 (r10.toInt32))) (fun r11 => mRt r11)))) else mBd (mCk 8 p0 (f_X10_refused p0 (1 : Int32) (-1000000000 : Int32))) (fun r12 => mRt r12)))))))))
set_option maxRecDepth 100000 in
theorem s_X10_let {cx : CX} (p0 : (Option Nat)) (p1 : Int32) (p2 : Int32) : Sn cx m_X10_let eI 0 [(0, vA p0), (1, vI p1), (2, vI p2)] [] (f_X10_let p0 p1 p2) := by
  refine sn_aload_n (y := m_X10_let) (pc := 0) dX10_let_0 rfl ?_
  refine sn_getA (y := m_X10_let) (pc := 1) ca_8 rfl fk_X10_53 (fun _ _ _ => rfl) dX10_let_1 (fun r1 => ?_)
  refine sn_aload_n (y := m_X10_let) (pc := 4) dX10_let_4 rfl ?_
  refine sn_getA (y := m_X10_let) (pc := 5) ca_8 rfl fk_X10_53 (fun _ _ _ => rfl) dX10_let_5 (fun r2 => ?_)
  refine sn_iload_n (y := m_X10_let) (pc := 8) dX10_let_8 rfl ?_
  refine sn_invV (y := m_X10_let) (pc := 9) ca_0 (av := [vI p1]) (o := r2) (st := [vA r1]) dX10_let_9 lk_X10_185 im_X0_letFieldAt se_X0_letFieldAt rfl rfl rfl rfl ⟨by decide, by decide⟩ (c_X0_letFieldAt cx.1 r2 p1) (fun r3 => ?_)
  refine sn_invV (y := m_X10_let) (pc := 12) ca_0 (av := [vI r3]) (o := r1) (st := []) dX10_let_12 lk_X10_111 im_X0_fieldAt se_X0_fieldAt rfl rfl rfl rfl ⟨by decide, by decide⟩ (c_X0_fieldAt cx.1 r1 r3) (fun r4 => ?_)
  refine sn_astore_n (y := m_X10_let) (pc := 15) dX10_let_15 rfl ?_
  refine sn_aload_n (y := m_X10_let) (pc := 16) dX10_let_16 rfl ?_
  refine sn_ifnull (y := m_X10_let) (pc := 17) (tgt := 32) dX10_let_17 (by decide) ?_ ?_
  · refine sn_aload_n (y := m_X10_let) (pc := 32) dX10_let_32 rfl ?_
    refine sn_iconst (y := m_X10_let) (pc := 33) dX10_let_33 kc_iconst_1 ?_
    refine sn_ldcI (y := m_X10_let) (pc := 34) ki_X10_188 dX10_let_34 ?_
    refine sn_invV (y := m_X10_let) (pc := 36) ca_8 (av := [vI (1 : Int32), vI (-1000000000 : Int32)]) (o := p0) (st := []) dX10_let_36 lk_X10_85 im_X10_refused se_X10_refused rfl rfl rfl rfl ⟨by decide, by decide⟩ (c_X10_refused cx.1 p0 (1 : Int32) (-1000000000 : Int32)) (fun r5 => ?_)
    exact sn_ireturn rfl dX10_let_39
  refine sn_iload_n (y := m_X10_let) (pc := 20) dX10_let_20 rfl ?_
  refine sn_if_lt (y := m_X10_let) (pc := 21) (tgt := 32) dX10_let_21 (by decide) (fun _ => ?_) (fun _ => ?_)
  · refine sn_aload_n (y := m_X10_let) (pc := 32) dX10_let_32 rfl ?_
    refine sn_iconst (y := m_X10_let) (pc := 33) dX10_let_33 kc_iconst_1 ?_
    refine sn_ldcI (y := m_X10_let) (pc := 34) ki_X10_188 dX10_let_34 ?_
    refine sn_invV (y := m_X10_let) (pc := 36) ca_8 (av := [vI (1 : Int32), vI (-1000000000 : Int32)]) (o := p0) (st := []) dX10_let_36 lk_X10_85 im_X10_refused se_X10_refused rfl rfl rfl rfl ⟨by decide, by decide⟩ (c_X10_refused cx.1 p0 (1 : Int32) (-1000000000 : Int32)) (fun r6 => ?_)
    exact sn_ireturn rfl dX10_let_39
  refine sn_iload_n (y := m_X10_let) (pc := 24) dX10_let_24 rfl ?_
  refine sn_aload_n (y := m_X10_let) (pc := 25) dX10_let_25 rfl ?_
  refine sn_invV (y := m_X10_let) (pc := 26) ca_2 (av := []) (o := r4) (st := [vI p2]) dX10_let_26 lk_X10_126 im_X2_rowLength se_X2_rowLength rfl rfl rfl rfl ⟨by decide, by decide⟩ (c_X2_rowLength cx.1 r4) (fun r7 => ?_)
  refine sn_icmp_lt (y := m_X10_let) (pc := 29) (tgt := 40) dX10_let_29 (by decide) (fun _ => ?_) (fun _ => ?_)
  · refine sn_aload_n (y := m_X10_let) (pc := 40) dX10_let_40 rfl ?_
    refine sn_aload_n (y := m_X10_let) (pc := 41) dX10_let_41 rfl ?_
    refine sn_getA (y := m_X10_let) (pc := 42) ca_8 rfl fk_X10_53 (fun _ _ _ => rfl) dX10_let_42 (fun r8 => ?_)
    refine sn_iload_n (y := m_X10_let) (pc := 45) dX10_let_45 rfl ?_
    refine sn_invV (y := m_X10_let) (pc := 46) ca_0 (av := [vI p1]) (o := r8) (st := [vA p0]) dX10_let_46 lk_X10_189 im_X0_letRowAt se_X0_letRowAt rfl rfl rfl rfl ⟨by decide, by decide⟩ (c_X0_letRowAt cx.1 r8 p1) (fun r9 => ?_)
    refine sn_iload_n (y := m_X10_let) (pc := 49) dX10_let_49 rfl ?_
    refine sn_invS (y := m_X10_let) (pc := 50) (av := [vA r9, vI p2]) (st := [vA p0]) dX10_let_50 lk_X10_152 sw_X6_at rfl rfl rfl ⟨by decide, by decide⟩ (c_X6_at cx.1 r9 p2) (fun r10 => ?_)
    refine sn_l2i (y := m_X10_let) (pc := 53) dX10_let_53 ?_
    refine sn_invV (y := m_X10_let) (pc := 54) ca_8 (av := [vI (r10.toInt32)]) (o := p0) (st := []) dX10_let_54 lk_X10_108 im_X10_answered se_X10_answered rfl rfl rfl rfl ⟨by decide, by decide⟩ (c_X10_answered cx.1 p0 (r10.toInt32)) (fun r11 => ?_)
    exact sn_ireturn rfl dX10_let_57
  refine sn_aload_n (y := m_X10_let) (pc := 32) dX10_let_32 rfl ?_
  refine sn_iconst (y := m_X10_let) (pc := 33) dX10_let_33 kc_iconst_1 ?_
  refine sn_ldcI (y := m_X10_let) (pc := 34) ki_X10_188 dX10_let_34 ?_
  refine sn_invV (y := m_X10_let) (pc := 36) ca_8 (av := [vI (1 : Int32), vI (-1000000000 : Int32)]) (o := p0) (st := []) dX10_let_36 lk_X10_85 im_X10_refused se_X10_refused rfl rfl rfl rfl ⟨by decide, by decide⟩ (c_X10_refused cx.1 p0 (1 : Int32) (-1000000000 : Int32)) (fun r12 => ?_)
  exact sn_ireturn rfl dX10_let_39
set_option maxRecDepth 100000 in
theorem c_X10_let (g : Gl) (p0 : (Option Nat)) (p1 : Int32) (p2 : Int32) : Cn g m_X10_let eI [vA p0, vI p1, vI p2] (mCk 8 p0 (f_X10_let p0 p1 p2)) := cn_of_sn (by decide +kernel) rfl (fun r => ⟨r, rfl⟩) rfl (fun _ _ => sn_ck (s_X10_let p0 p1 p2))
/-! X10_letField -/
def f_X10_letField (p0 : (Option Nat)) (p1 : Int32) : Mo Int32 :=
  mBd (mGetA 8 8 p0) (fun r1 => mBd (mCk 0 r1 (f_X0_letFieldAt r1 p1)) (fun r2 => (if r2 ≥ 0 then mBd (mCk 8 p0 (f_X10_answered p0 r2)) (fun r3 => mRt r3) else mBd (mCk 8 p0 (f_X10_refused p0 (1 : Int32) (-1 : Int32))) (fun r4 => mRt r4))))
set_option maxRecDepth 100000 in
theorem s_X10_letField {cx : CX} (p0 : (Option Nat)) (p1 : Int32) : Sn cx m_X10_letField eI 0 [(0, vA p0), (1, vI p1)] [] (f_X10_letField p0 p1) := by
  refine sn_aload_n (y := m_X10_letField) (pc := 0) dX10_letField_0 rfl ?_
  refine sn_getA (y := m_X10_letField) (pc := 1) ca_8 rfl fk_X10_53 (fun _ _ _ => rfl) dX10_letField_1 (fun r1 => ?_)
  refine sn_iload_n (y := m_X10_letField) (pc := 4) dX10_letField_4 rfl ?_
  refine sn_invV (y := m_X10_letField) (pc := 5) ca_0 (av := [vI p1]) (o := r1) (st := []) dX10_letField_5 lk_X10_185 im_X0_letFieldAt se_X0_letFieldAt rfl rfl rfl rfl ⟨by decide, by decide⟩ (c_X0_letFieldAt cx.1 r1 p1) (fun r2 => ?_)
  refine sn_istore_n (y := m_X10_letField) (pc := 8) dX10_letField_8 rfl ?_
  refine sn_iload_n (y := m_X10_letField) (pc := 9) dX10_letField_9 rfl ?_
  refine sn_if_ge (y := m_X10_letField) (pc := 10) (tgt := 22) dX10_letField_10 (by decide) (fun _ => ?_) (fun _ => ?_)
  · refine sn_aload_n (y := m_X10_letField) (pc := 22) dX10_letField_22 rfl ?_
    refine sn_iload_n (y := m_X10_letField) (pc := 23) dX10_letField_23 rfl ?_
    refine sn_invV (y := m_X10_letField) (pc := 24) ca_8 (av := [vI r2]) (o := p0) (st := []) dX10_letField_24 lk_X10_108 im_X10_answered se_X10_answered rfl rfl rfl rfl ⟨by decide, by decide⟩ (c_X10_answered cx.1 p0 r2) (fun r3 => ?_)
    exact sn_ireturn rfl dX10_letField_27
  refine sn_aload_n (y := m_X10_letField) (pc := 13) dX10_letField_13 rfl ?_
  refine sn_iconst (y := m_X10_letField) (pc := 14) dX10_letField_14 kc_iconst_1 ?_
  refine sn_iconst (y := m_X10_letField) (pc := 15) dX10_letField_15 kc_iconst_m1 ?_
  refine sn_invV (y := m_X10_letField) (pc := 16) ca_8 (av := [vI (1 : Int32), vI (-1 : Int32)]) (o := p0) (st := []) dX10_letField_16 lk_X10_85 im_X10_refused se_X10_refused rfl rfl rfl rfl ⟨by decide, by decide⟩ (c_X10_refused cx.1 p0 (1 : Int32) (-1 : Int32)) (fun r4 => ?_)
  refine sn_goto (y := m_X10_letField) (pc := 19) (tgt := 27) dX10_letField_19 (by decide) ?_
  exact sn_ireturn rfl dX10_letField_27
set_option maxRecDepth 100000 in
theorem c_X10_letField (g : Gl) (p0 : (Option Nat)) (p1 : Int32) : Cn g m_X10_letField eI [vA p0, vI p1] (mCk 8 p0 (f_X10_letField p0 p1)) := cn_of_sn (by decide +kernel) rfl (fun r => ⟨r, rfl⟩) rfl (fun _ _ => sn_ck (s_X10_letField p0 p1))
/-! X10_letPart -/
def f_X10_letPart (p0 : (Option Nat)) (p1 : Int32) (p2 : Int32) : Mo Int32 :=
  mBd (mGetA 8 8 p0) (fun r1 => mBd (mGetA 8 8 p0) (fun r2 => mBd (mCk 0 r2 (f_X0_letFieldAt r2 p1)) (fun r3 => mBd (mCk 0 r1 (f_X0_fieldAt r1 r3)) (fun r4 => (if r4 = none then mBd (mCk 8 p0 (f_X10_refused p0 (1 : Int32) (-1 : Int32))) (fun r11 => mRt r11) else mBd (mCk 2 r4 (f_X2_hasTurn r4 p2)) (fun r5 => (if ¬ r5 = 0 then mBd (mGetA 8 8 p0) (fun r6 => mBd (mCk 0 r6 (f_X0_letRowAt r6 p1)) (fun r7 => mBd (mCk 2 r4 (f_X2_partOf r4 r7 p2)) (fun r8 => mBd (mCk 8 p0 (f_X10_answered p0 r8)) (fun r9 => mRt r9)))) else mBd (mCk 8 p0 (f_X10_refused p0 (2 : Int32) (-1 : Int32))) (fun r10 => mRt r10))))))))
set_option maxRecDepth 100000 in
theorem s_X10_letPart {cx : CX} (p0 : (Option Nat)) (p1 : Int32) (p2 : Int32) : Sn cx m_X10_letPart eI 0 [(0, vA p0), (1, vI p1), (2, vI p2)] [] (f_X10_letPart p0 p1 p2) := by
  refine sn_aload_n (y := m_X10_letPart) (pc := 0) dX10_letPart_0 rfl ?_
  refine sn_getA (y := m_X10_letPart) (pc := 1) ca_8 rfl fk_X10_53 (fun _ _ _ => rfl) dX10_letPart_1 (fun r1 => ?_)
  refine sn_aload_n (y := m_X10_letPart) (pc := 4) dX10_letPart_4 rfl ?_
  refine sn_getA (y := m_X10_letPart) (pc := 5) ca_8 rfl fk_X10_53 (fun _ _ _ => rfl) dX10_letPart_5 (fun r2 => ?_)
  refine sn_iload_n (y := m_X10_letPart) (pc := 8) dX10_letPart_8 rfl ?_
  refine sn_invV (y := m_X10_letPart) (pc := 9) ca_0 (av := [vI p1]) (o := r2) (st := [vA r1]) dX10_letPart_9 lk_X10_185 im_X0_letFieldAt se_X0_letFieldAt rfl rfl rfl rfl ⟨by decide, by decide⟩ (c_X0_letFieldAt cx.1 r2 p1) (fun r3 => ?_)
  refine sn_invV (y := m_X10_letPart) (pc := 12) ca_0 (av := [vI r3]) (o := r1) (st := []) dX10_letPart_12 lk_X10_111 im_X0_fieldAt se_X0_fieldAt rfl rfl rfl rfl ⟨by decide, by decide⟩ (c_X0_fieldAt cx.1 r1 r3) (fun r4 => ?_)
  refine sn_astore_n (y := m_X10_letPart) (pc := 15) dX10_letPart_15 rfl ?_
  refine sn_aload_n (y := m_X10_letPart) (pc := 16) dX10_letPart_16 rfl ?_
  refine sn_ifnonnull (y := m_X10_letPart) (pc := 17) (tgt := 27) dX10_letPart_17 (by decide) ?_ ?_
  · refine sn_aload_n (y := m_X10_letPart) (pc := 20) dX10_letPart_20 rfl ?_
    refine sn_iconst (y := m_X10_letPart) (pc := 21) dX10_letPart_21 kc_iconst_1 ?_
    refine sn_iconst (y := m_X10_letPart) (pc := 22) dX10_letPart_22 kc_iconst_m1 ?_
    refine sn_invV (y := m_X10_letPart) (pc := 23) ca_8 (av := [vI (1 : Int32), vI (-1 : Int32)]) (o := p0) (st := []) dX10_letPart_23 lk_X10_85 im_X10_refused se_X10_refused rfl rfl rfl rfl ⟨by decide, by decide⟩ (c_X10_refused cx.1 p0 (1 : Int32) (-1 : Int32)) (fun r11 => ?_)
    exact sn_ireturn rfl dX10_letPart_26
  refine sn_aload_n (y := m_X10_letPart) (pc := 27) dX10_letPart_27 rfl ?_
  refine sn_iload_n (y := m_X10_letPart) (pc := 28) dX10_letPart_28 rfl ?_
  refine sn_invV (y := m_X10_letPart) (pc := 29) ca_2 (av := [vI p2]) (o := r4) (st := []) dX10_letPart_29 lk_X10_178 im_X2_hasTurn se_X2_hasTurn rfl rfl rfl rfl ⟨by decide, by decide⟩ (c_X2_hasTurn cx.1 r4 p2) (fun r5 => ?_)
  refine sn_if_ne (y := m_X10_letPart) (pc := 32) (tgt := 42) dX10_letPart_32 (by decide) (fun _ => ?_) (fun _ => ?_)
  · refine sn_aload_n (y := m_X10_letPart) (pc := 42) dX10_letPart_42 rfl ?_
    refine sn_aload_n (y := m_X10_letPart) (pc := 43) dX10_letPart_43 rfl ?_
    refine sn_aload_n (y := m_X10_letPart) (pc := 44) dX10_letPart_44 rfl ?_
    refine sn_getA (y := m_X10_letPart) (pc := 45) ca_8 rfl fk_X10_53 (fun _ _ _ => rfl) dX10_letPart_45 (fun r6 => ?_)
    refine sn_iload_n (y := m_X10_letPart) (pc := 48) dX10_letPart_48 rfl ?_
    refine sn_invV (y := m_X10_letPart) (pc := 49) ca_0 (av := [vI p1]) (o := r6) (st := [vA r4, vA p0]) dX10_letPart_49 lk_X10_189 im_X0_letRowAt se_X0_letRowAt rfl rfl rfl rfl ⟨by decide, by decide⟩ (c_X0_letRowAt cx.1 r6 p1) (fun r7 => ?_)
    refine sn_iload_n (y := m_X10_letPart) (pc := 52) dX10_letPart_52 rfl ?_
    refine sn_invV (y := m_X10_letPart) (pc := 53) ca_2 (av := [vA r7, vI p2]) (o := r4) (st := [vA p0]) dX10_letPart_53 lk_X10_181 im_X2_partOf se_X2_partOf rfl rfl rfl rfl ⟨by decide, by decide⟩ (c_X2_partOf cx.1 r4 r7 p2) (fun r8 => ?_)
    refine sn_invV (y := m_X10_letPart) (pc := 56) ca_8 (av := [vI r8]) (o := p0) (st := []) dX10_letPart_56 lk_X10_108 im_X10_answered se_X10_answered rfl rfl rfl rfl ⟨by decide, by decide⟩ (c_X10_answered cx.1 p0 r8) (fun r9 => ?_)
    exact sn_ireturn rfl dX10_letPart_59
  refine sn_aload_n (y := m_X10_letPart) (pc := 35) dX10_letPart_35 rfl ?_
  refine sn_iconst (y := m_X10_letPart) (pc := 36) dX10_letPart_36 kc_iconst_2 ?_
  refine sn_iconst (y := m_X10_letPart) (pc := 37) dX10_letPart_37 kc_iconst_m1 ?_
  refine sn_invV (y := m_X10_letPart) (pc := 38) ca_8 (av := [vI (2 : Int32), vI (-1 : Int32)]) (o := p0) (st := []) dX10_letPart_38 lk_X10_85 im_X10_refused se_X10_refused rfl rfl rfl rfl ⟨by decide, by decide⟩ (c_X10_refused cx.1 p0 (2 : Int32) (-1 : Int32)) (fun r10 => ?_)
  exact sn_ireturn rfl dX10_letPart_41
set_option maxRecDepth 100000 in
theorem c_X10_letPart (g : Gl) (p0 : (Option Nat)) (p1 : Int32) (p2 : Int32) : Cn g m_X10_letPart eI [vA p0, vI p1, vI p2] (mCk 8 p0 (f_X10_letPart p0 p1 p2)) := cn_of_sn (by decide +kernel) rfl (fun r => ⟨r, rfl⟩) rfl (fun _ _ => sn_ck (s_X10_letPart p0 p1 p2))
/-! X10_whole -/
def f_X10_whole (p0 : (Option Nat)) (p1 : Int32) : Mo Int32 :=
  mBd (mGetA 8 8 p0) (fun r1 => mBd (mCk 0 r1 (f_X0_letFieldAt r1 p1)) (fun r2 => (if r2 ≥ 0 then mBd (mGetA 8 8 p0) (fun r3 => mBd (mCk 0 r3 (f_X0_letRowAt r3 p1)) (fun r4 => mBd (f_X6_isWhole r4) (fun r5 => (if r5 = 0 then mBd (mCk 8 p0 (f_X10_answered p0 (0 : Int32))) (fun r6 => mRt r6) else mBd (mCk 8 p0 (f_X10_answered p0 (1 : Int32))) (fun r7 => mRt r7))))) else mBd (mCk 8 p0 (f_X10_refused p0 (1 : Int32) (-1 : Int32))) (fun r8 => mRt r8))))
set_option maxRecDepth 100000 in
theorem s_X10_whole {cx : CX} (p0 : (Option Nat)) (p1 : Int32) : Sn cx m_X10_whole eI 0 [(0, vA p0), (1, vI p1)] [] (f_X10_whole p0 p1) := by
  refine sn_aload_n (y := m_X10_whole) (pc := 0) dX10_whole_0 rfl ?_
  refine sn_getA (y := m_X10_whole) (pc := 1) ca_8 rfl fk_X10_53 (fun _ _ _ => rfl) dX10_whole_1 (fun r1 => ?_)
  refine sn_iload_n (y := m_X10_whole) (pc := 4) dX10_whole_4 rfl ?_
  refine sn_invV (y := m_X10_whole) (pc := 5) ca_0 (av := [vI p1]) (o := r1) (st := []) dX10_whole_5 lk_X10_185 im_X0_letFieldAt se_X0_letFieldAt rfl rfl rfl rfl ⟨by decide, by decide⟩ (c_X0_letFieldAt cx.1 r1 p1) (fun r2 => ?_)
  refine sn_if_ge (y := m_X10_whole) (pc := 8) (tgt := 18) dX10_whole_8 (by decide) (fun _ => ?_) (fun _ => ?_)
  · refine sn_aload_n (y := m_X10_whole) (pc := 18) dX10_whole_18 rfl ?_
    refine sn_aload_n (y := m_X10_whole) (pc := 19) dX10_whole_19 rfl ?_
    refine sn_getA (y := m_X10_whole) (pc := 20) ca_8 rfl fk_X10_53 (fun _ _ _ => rfl) dX10_whole_20 (fun r3 => ?_)
    refine sn_iload_n (y := m_X10_whole) (pc := 23) dX10_whole_23 rfl ?_
    refine sn_invV (y := m_X10_whole) (pc := 24) ca_0 (av := [vI p1]) (o := r3) (st := [vA p0]) dX10_whole_24 lk_X10_189 im_X0_letRowAt se_X0_letRowAt rfl rfl rfl rfl ⟨by decide, by decide⟩ (c_X0_letRowAt cx.1 r3 p1) (fun r4 => ?_)
    refine sn_invS (y := m_X10_whole) (pc := 27) (av := [vA r4]) (st := [vA p0]) dX10_whole_27 lk_X10_166 sw_X6_isWhole rfl rfl rfl ⟨by decide, by decide⟩ (c_X6_isWhole cx.1 r4) (fun r5 => ?_)
    refine sn_if_eq (y := m_X10_whole) (pc := 30) (tgt := 37) dX10_whole_30 (by decide) (fun _ => ?_) (fun _ => ?_)
    · refine sn_iconst (y := m_X10_whole) (pc := 37) dX10_whole_37 kc_iconst_0 ?_
      refine sn_invV (y := m_X10_whole) (pc := 38) ca_8 (av := [vI (0 : Int32)]) (o := p0) (st := []) dX10_whole_38 lk_X10_108 im_X10_answered se_X10_answered rfl rfl rfl rfl ⟨by decide, by decide⟩ (c_X10_answered cx.1 p0 (0 : Int32)) (fun r6 => ?_)
      exact sn_ireturn rfl dX10_whole_41
    refine sn_iconst (y := m_X10_whole) (pc := 33) dX10_whole_33 kc_iconst_1 ?_
    refine sn_goto (y := m_X10_whole) (pc := 34) (tgt := 38) dX10_whole_34 (by decide) ?_
    refine sn_invV (y := m_X10_whole) (pc := 38) ca_8 (av := [vI (1 : Int32)]) (o := p0) (st := []) dX10_whole_38 lk_X10_108 im_X10_answered se_X10_answered rfl rfl rfl rfl ⟨by decide, by decide⟩ (c_X10_answered cx.1 p0 (1 : Int32)) (fun r7 => ?_)
    exact sn_ireturn rfl dX10_whole_41
  refine sn_aload_n (y := m_X10_whole) (pc := 11) dX10_whole_11 rfl ?_
  refine sn_iconst (y := m_X10_whole) (pc := 12) dX10_whole_12 kc_iconst_1 ?_
  refine sn_iconst (y := m_X10_whole) (pc := 13) dX10_whole_13 kc_iconst_m1 ?_
  refine sn_invV (y := m_X10_whole) (pc := 14) ca_8 (av := [vI (1 : Int32), vI (-1 : Int32)]) (o := p0) (st := []) dX10_whole_14 lk_X10_85 im_X10_refused se_X10_refused rfl rfl rfl rfl ⟨by decide, by decide⟩ (c_X10_refused cx.1 p0 (1 : Int32) (-1 : Int32)) (fun r8 => ?_)
  exact sn_ireturn rfl dX10_whole_17
set_option maxRecDepth 100000 in
theorem c_X10_whole (g : Gl) (p0 : (Option Nat)) (p1 : Int32) : Cn g m_X10_whole eI [vA p0, vI p1] (mCk 8 p0 (f_X10_whole p0 p1)) := cn_of_sn (by decide +kernel) rfl (fun r => ⟨r, rfl⟩) rfl (fun _ _ => sn_ck (s_X10_whole p0 p1))
/-! X10_count -/
def f_X10_count (p0 : (Option Nat)) (p1 : Int32) : Mo Int32 :=
  mBd (mGetA 8 8 p0) (fun r1 => mBd (mCk 0 r1 (f_X0_equationAt r1 p1)) (fun r2 => (if r2 = none then mBd (mCk 8 p0 (f_X10_refused p0 (1 : Int32) (-1 : Int32))) (fun r6 => mRt r6) else mBd (mCk 1 r2 (f_X1_result r2)) (fun r3 => mBd (mCk 1 r2 (f_X1_ways r2 r3)) (fun r4 => mBd (mCk 8 p0 (f_X10_answered p0 r4)) (fun r5 => mRt r5))))))
set_option maxRecDepth 100000 in
theorem s_X10_count {cx : CX} (p0 : (Option Nat)) (p1 : Int32) : Sn cx m_X10_count eI 0 [(0, vA p0), (1, vI p1)] [] (f_X10_count p0 p1) := by
  refine sn_aload_n (y := m_X10_count) (pc := 0) dX10_count_0 rfl ?_
  refine sn_getA (y := m_X10_count) (pc := 1) ca_8 rfl fk_X10_53 (fun _ _ _ => rfl) dX10_count_1 (fun r1 => ?_)
  refine sn_iload_n (y := m_X10_count) (pc := 4) dX10_count_4 rfl ?_
  refine sn_invV (y := m_X10_count) (pc := 5) ca_0 (av := [vI p1]) (o := r1) (st := []) dX10_count_5 lk_X10_193 im_X0_equationAt se_X0_equationAt rfl rfl rfl rfl ⟨by decide, by decide⟩ (c_X0_equationAt cx.1 r1 p1) (fun r2 => ?_)
  refine sn_astore_n (y := m_X10_count) (pc := 8) dX10_count_8 rfl ?_
  refine sn_aload_n (y := m_X10_count) (pc := 9) dX10_count_9 rfl ?_
  refine sn_ifnonnull (y := m_X10_count) (pc := 10) (tgt := 20) dX10_count_10 (by decide) ?_ ?_
  · refine sn_aload_n (y := m_X10_count) (pc := 13) dX10_count_13 rfl ?_
    refine sn_iconst (y := m_X10_count) (pc := 14) dX10_count_14 kc_iconst_1 ?_
    refine sn_iconst (y := m_X10_count) (pc := 15) dX10_count_15 kc_iconst_m1 ?_
    refine sn_invV (y := m_X10_count) (pc := 16) ca_8 (av := [vI (1 : Int32), vI (-1 : Int32)]) (o := p0) (st := []) dX10_count_16 lk_X10_85 im_X10_refused se_X10_refused rfl rfl rfl rfl ⟨by decide, by decide⟩ (c_X10_refused cx.1 p0 (1 : Int32) (-1 : Int32)) (fun r6 => ?_)
    exact sn_ireturn rfl dX10_count_19
  refine sn_aload_n (y := m_X10_count) (pc := 20) dX10_count_20 rfl ?_
  refine sn_aload_n (y := m_X10_count) (pc := 21) dX10_count_21 rfl ?_
  refine sn_aload_n (y := m_X10_count) (pc := 22) dX10_count_22 rfl ?_
  refine sn_invV (y := m_X10_count) (pc := 23) ca_1 (av := []) (o := r2) (st := [vA r2, vA p0]) dX10_count_23 lk_X10_197 im_X1_result se_X1_result rfl rfl rfl rfl ⟨by decide, by decide⟩ (c_X1_result cx.1 r2) (fun r3 => ?_)
  refine sn_invV (y := m_X10_count) (pc := 26) ca_1 (av := [vI r3]) (o := r2) (st := [vA p0]) dX10_count_26 lk_X10_202 im_X1_ways se_X1_ways rfl rfl rfl rfl ⟨by decide, by decide⟩ (c_X1_ways cx.1 r2 r3) (fun r4 => ?_)
  refine sn_invV (y := m_X10_count) (pc := 29) ca_8 (av := [vI r4]) (o := p0) (st := []) dX10_count_29 lk_X10_108 im_X10_answered se_X10_answered rfl rfl rfl rfl ⟨by decide, by decide⟩ (c_X10_answered cx.1 p0 r4) (fun r5 => ?_)
  exact sn_ireturn rfl dX10_count_32
set_option maxRecDepth 100000 in
theorem c_X10_count (g : Gl) (p0 : (Option Nat)) (p1 : Int32) : Cn g m_X10_count eI [vA p0, vI p1] (mCk 8 p0 (f_X10_count p0 p1)) := cn_of_sn (by decide +kernel) rfl (fun r => ⟨r, rfl⟩) rfl (fun _ _ => sn_ck (s_X10_count p0 p1))
/-! X10_countOf -/
def f_X10_countOf (p0 : (Option Nat)) (p1 : Int32) (p2 : Int32) : Mo Int32 :=
  mBd (mGetA 8 8 p0) (fun r1 => mBd (mCk 0 r1 (f_X0_equationAt r1 p1)) (fun r2 => (if r2 = none then mBd (mCk 8 p0 (f_X10_refused p0 (1 : Int32) (-1 : Int32))) (fun r8 => mRt r8) else (if p2 < 0 then mBd (mCk 8 p0 (f_X10_refused p0 (2 : Int32) (-1 : Int32))) (fun r3 => mRt r3) else mBd (mCk 1 r2 (f_X1_prime r2)) (fun r4 => (if p2 < r4 then mBd (mCk 1 r2 (f_X1_ways r2 p2)) (fun r5 => mBd (mCk 8 p0 (f_X10_answered p0 r5)) (fun r6 => mRt r6)) else mBd (mCk 8 p0 (f_X10_refused p0 (2 : Int32) (-1 : Int32))) (fun r7 => mRt r7)))))))
set_option maxRecDepth 100000 in
theorem s_X10_countOf {cx : CX} (p0 : (Option Nat)) (p1 : Int32) (p2 : Int32) : Sn cx m_X10_countOf eI 0 [(0, vA p0), (1, vI p1), (2, vI p2)] [] (f_X10_countOf p0 p1 p2) := by
  refine sn_aload_n (y := m_X10_countOf) (pc := 0) dX10_countOf_0 rfl ?_
  refine sn_getA (y := m_X10_countOf) (pc := 1) ca_8 rfl fk_X10_53 (fun _ _ _ => rfl) dX10_countOf_1 (fun r1 => ?_)
  refine sn_iload_n (y := m_X10_countOf) (pc := 4) dX10_countOf_4 rfl ?_
  refine sn_invV (y := m_X10_countOf) (pc := 5) ca_0 (av := [vI p1]) (o := r1) (st := []) dX10_countOf_5 lk_X10_193 im_X0_equationAt se_X0_equationAt rfl rfl rfl rfl ⟨by decide, by decide⟩ (c_X0_equationAt cx.1 r1 p1) (fun r2 => ?_)
  refine sn_astore_n (y := m_X10_countOf) (pc := 8) dX10_countOf_8 rfl ?_
  refine sn_aload_n (y := m_X10_countOf) (pc := 9) dX10_countOf_9 rfl ?_
  refine sn_ifnonnull (y := m_X10_countOf) (pc := 10) (tgt := 20) dX10_countOf_10 (by decide) ?_ ?_
  · refine sn_aload_n (y := m_X10_countOf) (pc := 13) dX10_countOf_13 rfl ?_
    refine sn_iconst (y := m_X10_countOf) (pc := 14) dX10_countOf_14 kc_iconst_1 ?_
    refine sn_iconst (y := m_X10_countOf) (pc := 15) dX10_countOf_15 kc_iconst_m1 ?_
    refine sn_invV (y := m_X10_countOf) (pc := 16) ca_8 (av := [vI (1 : Int32), vI (-1 : Int32)]) (o := p0) (st := []) dX10_countOf_16 lk_X10_85 im_X10_refused se_X10_refused rfl rfl rfl rfl ⟨by decide, by decide⟩ (c_X10_refused cx.1 p0 (1 : Int32) (-1 : Int32)) (fun r8 => ?_)
    exact sn_ireturn rfl dX10_countOf_19
  refine sn_iload_n (y := m_X10_countOf) (pc := 20) dX10_countOf_20 rfl ?_
  refine sn_if_lt (y := m_X10_countOf) (pc := 21) (tgt := 32) dX10_countOf_21 (by decide) (fun _ => ?_) (fun _ => ?_)
  · refine sn_aload_n (y := m_X10_countOf) (pc := 32) dX10_countOf_32 rfl ?_
    refine sn_iconst (y := m_X10_countOf) (pc := 33) dX10_countOf_33 kc_iconst_2 ?_
    refine sn_iconst (y := m_X10_countOf) (pc := 34) dX10_countOf_34 kc_iconst_m1 ?_
    refine sn_invV (y := m_X10_countOf) (pc := 35) ca_8 (av := [vI (2 : Int32), vI (-1 : Int32)]) (o := p0) (st := []) dX10_countOf_35 lk_X10_85 im_X10_refused se_X10_refused rfl rfl rfl rfl ⟨by decide, by decide⟩ (c_X10_refused cx.1 p0 (2 : Int32) (-1 : Int32)) (fun r3 => ?_)
    exact sn_ireturn rfl dX10_countOf_38
  refine sn_iload_n (y := m_X10_countOf) (pc := 24) dX10_countOf_24 rfl ?_
  refine sn_aload_n (y := m_X10_countOf) (pc := 25) dX10_countOf_25 rfl ?_
  refine sn_invV (y := m_X10_countOf) (pc := 26) ca_1 (av := []) (o := r2) (st := [vI p2]) dX10_countOf_26 lk_X10_205 im_X1_prime se_X1_prime rfl rfl rfl rfl ⟨by decide, by decide⟩ (c_X1_prime cx.1 r2) (fun r4 => ?_)
  refine sn_icmp_lt (y := m_X10_countOf) (pc := 29) (tgt := 39) dX10_countOf_29 (by decide) (fun _ => ?_) (fun _ => ?_)
  · refine sn_aload_n (y := m_X10_countOf) (pc := 39) dX10_countOf_39 rfl ?_
    refine sn_aload_n (y := m_X10_countOf) (pc := 40) dX10_countOf_40 rfl ?_
    refine sn_iload_n (y := m_X10_countOf) (pc := 41) dX10_countOf_41 rfl ?_
    refine sn_invV (y := m_X10_countOf) (pc := 42) ca_1 (av := [vI p2]) (o := r2) (st := [vA p0]) dX10_countOf_42 lk_X10_202 im_X1_ways se_X1_ways rfl rfl rfl rfl ⟨by decide, by decide⟩ (c_X1_ways cx.1 r2 p2) (fun r5 => ?_)
    refine sn_invV (y := m_X10_countOf) (pc := 45) ca_8 (av := [vI r5]) (o := p0) (st := []) dX10_countOf_45 lk_X10_108 im_X10_answered se_X10_answered rfl rfl rfl rfl ⟨by decide, by decide⟩ (c_X10_answered cx.1 p0 r5) (fun r6 => ?_)
    exact sn_ireturn rfl dX10_countOf_48
  refine sn_aload_n (y := m_X10_countOf) (pc := 32) dX10_countOf_32 rfl ?_
  refine sn_iconst (y := m_X10_countOf) (pc := 33) dX10_countOf_33 kc_iconst_2 ?_
  refine sn_iconst (y := m_X10_countOf) (pc := 34) dX10_countOf_34 kc_iconst_m1 ?_
  refine sn_invV (y := m_X10_countOf) (pc := 35) ca_8 (av := [vI (2 : Int32), vI (-1 : Int32)]) (o := p0) (st := []) dX10_countOf_35 lk_X10_85 im_X10_refused se_X10_refused rfl rfl rfl rfl ⟨by decide, by decide⟩ (c_X10_refused cx.1 p0 (2 : Int32) (-1 : Int32)) (fun r7 => ?_)
  exact sn_ireturn rfl dX10_countOf_38
set_option maxRecDepth 100000 in
theorem c_X10_countOf (g : Gl) (p0 : (Option Nat)) (p1 : Int32) (p2 : Int32) : Cn g m_X10_countOf eI [vA p0, vI p1, vI p2] (mCk 8 p0 (f_X10_countOf p0 p1 p2)) := cn_of_sn (by decide +kernel) rfl (fun r => ⟨r, rfl⟩) rfl (fun _ _ => sn_ck (s_X10_countOf p0 p1 p2))
/-! X10_curve -/
def f_X10_curve (p0 : (Option Nat)) (p1 : Int32) (p2 : Int32) : Mo Int64 :=
  mBd (mGetA 8 8 p0) (fun r1 => mBd (mCk 0 r1 (f_X0_fieldAt r1 p1)) (fun r2 => (if r2 = none then mBd (mCk 8 p0 (f_X10_refused p0 (1 : Int32) (-1 : Int32))) (fun r9 => mRt (r9.toInt64)) else (if p2 < (1 : Int32) then mBd (mCk 8 p0 (f_X10_refused p0 (2 : Int32) (-1 : Int32))) (fun r3 => mRt (r3.toInt64)) else (if p2 ≤ (4 : Int32) then mBd (mPutI 8 11 p0 (0 : Int32)) (fun _ => mBd (mGetA 8 1 p0) (fun r4 => mBd (mGetA 8 4 p0) (fun r5 => mBd (mGetA 8 5 p0) (fun r6 => mBd (mCk 2 r2 (f_X2_pointsOfCurve r2 p2 r4 r5 r6)) (fun r7 => mRt r7))))) else mBd (mCk 8 p0 (f_X10_refused p0 (2 : Int32) (-1 : Int32))) (fun r8 => mRt (r8.toInt64)))))))
set_option maxRecDepth 100000 in
theorem s_X10_curve {cx : CX} (p0 : (Option Nat)) (p1 : Int32) (p2 : Int32) : Sn cx m_X10_curve eJ 0 [(0, vA p0), (1, vI p1), (2, vI p2)] [] (f_X10_curve p0 p1 p2) := by
  refine sn_aload_n (y := m_X10_curve) (pc := 0) dX10_curve_0 rfl ?_
  refine sn_getA (y := m_X10_curve) (pc := 1) ca_8 rfl fk_X10_53 (fun _ _ _ => rfl) dX10_curve_1 (fun r1 => ?_)
  refine sn_iload_n (y := m_X10_curve) (pc := 4) dX10_curve_4 rfl ?_
  refine sn_invV (y := m_X10_curve) (pc := 5) ca_0 (av := [vI p1]) (o := r1) (st := []) dX10_curve_5 lk_X10_111 im_X0_fieldAt se_X0_fieldAt rfl rfl rfl rfl ⟨by decide, by decide⟩ (c_X0_fieldAt cx.1 r1 p1) (fun r2 => ?_)
  refine sn_astore_n (y := m_X10_curve) (pc := 8) dX10_curve_8 rfl ?_
  refine sn_aload_n (y := m_X10_curve) (pc := 9) dX10_curve_9 rfl ?_
  refine sn_ifnonnull (y := m_X10_curve) (pc := 10) (tgt := 21) dX10_curve_10 (by decide) ?_ ?_
  · refine sn_aload_n (y := m_X10_curve) (pc := 13) dX10_curve_13 rfl ?_
    refine sn_iconst (y := m_X10_curve) (pc := 14) dX10_curve_14 kc_iconst_1 ?_
    refine sn_iconst (y := m_X10_curve) (pc := 15) dX10_curve_15 kc_iconst_m1 ?_
    refine sn_invV (y := m_X10_curve) (pc := 16) ca_8 (av := [vI (1 : Int32), vI (-1 : Int32)]) (o := p0) (st := []) dX10_curve_16 lk_X10_85 im_X10_refused se_X10_refused rfl rfl rfl rfl ⟨by decide, by decide⟩ (c_X10_refused cx.1 p0 (1 : Int32) (-1 : Int32)) (fun r9 => ?_)
    refine sn_i2l (y := m_X10_curve) (pc := 19) dX10_curve_19 ?_
    exact sn_lreturn rfl dX10_curve_20
  refine sn_iload_n (y := m_X10_curve) (pc := 21) dX10_curve_21 rfl ?_
  refine sn_iconst (y := m_X10_curve) (pc := 22) dX10_curve_22 kc_iconst_1 ?_
  refine sn_icmp_lt (y := m_X10_curve) (pc := 23) (tgt := 31) dX10_curve_23 (by decide) (fun _ => ?_) (fun _ => ?_)
  · refine sn_aload_n (y := m_X10_curve) (pc := 31) dX10_curve_31 rfl ?_
    refine sn_iconst (y := m_X10_curve) (pc := 32) dX10_curve_32 kc_iconst_2 ?_
    refine sn_iconst (y := m_X10_curve) (pc := 33) dX10_curve_33 kc_iconst_m1 ?_
    refine sn_invV (y := m_X10_curve) (pc := 34) ca_8 (av := [vI (2 : Int32), vI (-1 : Int32)]) (o := p0) (st := []) dX10_curve_34 lk_X10_85 im_X10_refused se_X10_refused rfl rfl rfl rfl ⟨by decide, by decide⟩ (c_X10_refused cx.1 p0 (2 : Int32) (-1 : Int32)) (fun r3 => ?_)
    refine sn_i2l (y := m_X10_curve) (pc := 37) dX10_curve_37 ?_
    exact sn_lreturn rfl dX10_curve_38
  refine sn_iload_n (y := m_X10_curve) (pc := 26) dX10_curve_26 rfl ?_
  refine sn_iconst (y := m_X10_curve) (pc := 27) dX10_curve_27 kc_iconst_4 ?_
  refine sn_icmp_le (y := m_X10_curve) (pc := 28) (tgt := 39) dX10_curve_28 (by decide) (fun _ => ?_) (fun _ => ?_)
  · refine sn_aload_n (y := m_X10_curve) (pc := 39) dX10_curve_39 rfl ?_
    refine sn_iconst (y := m_X10_curve) (pc := 40) dX10_curve_40 kc_iconst_0 ?_
    refine sn_putI (y := m_X10_curve) (pc := 41) ca_8 rfl fk_X10_64 (Or.inl rfl) rfl dX10_curve_41 ?_
    refine sn_aload_n (y := m_X10_curve) (pc := 44) dX10_curve_44 rfl ?_
    refine sn_iload_n (y := m_X10_curve) (pc := 45) dX10_curve_45 rfl ?_
    refine sn_aload_n (y := m_X10_curve) (pc := 46) dX10_curve_46 rfl ?_
    refine sn_getA (y := m_X10_curve) (pc := 47) ca_8 rfl fk_X10_19 (fun _ _ _ => rfl) dX10_curve_47 (fun r4 => ?_)
    refine sn_aload_n (y := m_X10_curve) (pc := 50) dX10_curve_50 rfl ?_
    refine sn_getA (y := m_X10_curve) (pc := 51) ca_8 rfl fk_X10_37 (fun _ _ _ => rfl) dX10_curve_51 (fun r5 => ?_)
    refine sn_aload_n (y := m_X10_curve) (pc := 54) dX10_curve_54 rfl ?_
    refine sn_getA (y := m_X10_curve) (pc := 55) ca_8 rfl fk_X10_41 (fun _ _ _ => rfl) dX10_curve_55 (fun r6 => ?_)
    refine sn_invV (y := m_X10_curve) (pc := 58) ca_2 (av := [vI p2, vA r4, vA r5, vA r6]) (o := r2) (st := []) dX10_curve_58 lk_X10_206 im_X2_pointsOfCurve se_X2_pointsOfCurve rfl rfl rfl rfl ⟨by decide, by decide⟩ (c_X2_pointsOfCurve cx.1 r2 p2 r4 r5 r6) (fun r7 => ?_)
    exact sn_lreturn rfl dX10_curve_61
  refine sn_aload_n (y := m_X10_curve) (pc := 31) dX10_curve_31 rfl ?_
  refine sn_iconst (y := m_X10_curve) (pc := 32) dX10_curve_32 kc_iconst_2 ?_
  refine sn_iconst (y := m_X10_curve) (pc := 33) dX10_curve_33 kc_iconst_m1 ?_
  refine sn_invV (y := m_X10_curve) (pc := 34) ca_8 (av := [vI (2 : Int32), vI (-1 : Int32)]) (o := p0) (st := []) dX10_curve_34 lk_X10_85 im_X10_refused se_X10_refused rfl rfl rfl rfl ⟨by decide, by decide⟩ (c_X10_refused cx.1 p0 (2 : Int32) (-1 : Int32)) (fun r8 => ?_)
  refine sn_i2l (y := m_X10_curve) (pc := 37) dX10_curve_37 ?_
  exact sn_lreturn rfl dX10_curve_38
set_option maxRecDepth 100000 in
theorem c_X10_curve (g : Gl) (p0 : (Option Nat)) (p1 : Int32) (p2 : Int32) : Cn g m_X10_curve eJ [vA p0, vI p1, vI p2] (mCk 8 p0 (f_X10_curve p0 p1 p2)) := cn_of_sn (by decide +kernel) rfl (fun r => ⟨r, rfl⟩) rfl (fun _ _ => sn_ck (s_X10_curve p0 p1 p2))
/-! X10_sign -/
def f_X10_sign (p0 : (Option Nat)) (p1 : Int32) (p2 : Int32) : Mo Int32 :=
  mBd (f_X8_isOddPrime p2) (fun r1 => (if ¬ r1 = 0 then mBd (f_X8_signOf p1 p2) (fun r2 => mBd (mCk 8 p0 (f_X10_answered p0 r2)) (fun r3 => mRt r3)) else mBd (mCk 8 p0 (f_X10_refused p0 (1 : Int32) (-2 : Int32))) (fun r4 => mRt r4)))
set_option maxRecDepth 100000 in
theorem s_X10_sign {cx : CX} (p0 : (Option Nat)) (p1 : Int32) (p2 : Int32) : Sn cx m_X10_sign eI 0 [(0, vA p0), (1, vI p1), (2, vI p2)] [] (f_X10_sign p0 p1 p2) := by
  refine sn_iload_n (y := m_X10_sign) (pc := 0) dX10_sign_0 rfl ?_
  refine sn_invS (y := m_X10_sign) (pc := 1) (av := [vI p2]) (st := []) dX10_sign_1 lk_X10_210 sw_X8_isOddPrime rfl rfl rfl ⟨by decide, by decide⟩ (c_X8_isOddPrime cx.1 p2) (fun r1 => ?_)
  refine sn_if_ne (y := m_X10_sign) (pc := 4) (tgt := 15) dX10_sign_4 (by decide) (fun _ => ?_) (fun _ => ?_)
  · refine sn_aload_n (y := m_X10_sign) (pc := 15) dX10_sign_15 rfl ?_
    refine sn_iload_n (y := m_X10_sign) (pc := 16) dX10_sign_16 rfl ?_
    refine sn_iload_n (y := m_X10_sign) (pc := 17) dX10_sign_17 rfl ?_
    refine sn_invS (y := m_X10_sign) (pc := 18) (av := [vI p1, vI p2]) (st := [vA p0]) dX10_sign_18 lk_X10_215 sw_X8_signOf rfl rfl rfl ⟨by decide, by decide⟩ (c_X8_signOf cx.1 p1 p2) (fun r2 => ?_)
    refine sn_invV (y := m_X10_sign) (pc := 21) ca_8 (av := [vI r2]) (o := p0) (st := []) dX10_sign_21 lk_X10_108 im_X10_answered se_X10_answered rfl rfl rfl rfl ⟨by decide, by decide⟩ (c_X10_answered cx.1 p0 r2) (fun r3 => ?_)
    exact sn_ireturn rfl dX10_sign_24
  refine sn_aload_n (y := m_X10_sign) (pc := 7) dX10_sign_7 rfl ?_
  refine sn_iconst (y := m_X10_sign) (pc := 8) dX10_sign_8 kc_iconst_1 ?_
  refine sn_bipush (y := m_X10_sign) (pc := 9) dX10_sign_9 kc_bipush_m2 ?_
  refine sn_invV (y := m_X10_sign) (pc := 11) ca_8 (av := [vI (1 : Int32), vI (-2 : Int32)]) (o := p0) (st := []) dX10_sign_11 lk_X10_85 im_X10_refused se_X10_refused rfl rfl rfl rfl ⟨by decide, by decide⟩ (c_X10_refused cx.1 p0 (1 : Int32) (-2 : Int32)) (fun r4 => ?_)
  exact sn_ireturn rfl dX10_sign_14
set_option maxRecDepth 100000 in
theorem c_X10_sign (g : Gl) (p0 : (Option Nat)) (p1 : Int32) (p2 : Int32) : Cn g m_X10_sign eI [vA p0, vI p1, vI p2] (mCk 8 p0 (f_X10_sign p0 p1 p2)) := cn_of_sn (by decide +kernel) rfl (fun r => ⟨r, rfl⟩) rfl (fun _ _ => sn_ck (s_X10_sign p0 p1 p2))
/-! X10_both -/
def f_X10_both (p0 : (Option Nat)) (p1 : Int32) (p2 : Int32) : Mo Int32 :=
  mBd (f_X8_isOddPrime p1) (fun r1 => (if r1 = 0 then mBd (mCk 8 p0 (f_X10_refused p0 (1 : Int32) (-2 : Int32))) (fun r2 => mRt r2) else mBd (f_X8_isOddPrime p2) (fun r3 => (if r3 = 0 then mBd (mCk 8 p0 (f_X10_refused p0 (1 : Int32) (-2 : Int32))) (fun r4 => mRt r4) else (if ¬ p1 = p2 then mBd (f_X8_signOf p1 p2) (fun r5 => mBd (f_X8_signOf p2 p1) (fun r6 => mBd (mCk 8 p0 (f_X10_answered p0 (r5 * r6))) (fun r7 => mRt r7))) else mBd (mCk 8 p0 (f_X10_refused p0 (1 : Int32) (-2 : Int32))) (fun r8 => mRt r8))))))
set_option maxRecDepth 100000 in
theorem s_X10_both {cx : CX} (p0 : (Option Nat)) (p1 : Int32) (p2 : Int32) : Sn cx m_X10_both eI 0 [(0, vA p0), (1, vI p1), (2, vI p2)] [] (f_X10_both p0 p1 p2) := by
  refine sn_iload_n (y := m_X10_both) (pc := 0) dX10_both_0 rfl ?_
  refine sn_invS (y := m_X10_both) (pc := 1) (av := [vI p1]) (st := []) dX10_both_1 lk_X10_210 sw_X8_isOddPrime rfl rfl rfl ⟨by decide, by decide⟩ (c_X8_isOddPrime cx.1 p1) (fun r1 => ?_)
  refine sn_if_eq (y := m_X10_both) (pc := 4) (tgt := 19) dX10_both_4 (by decide) (fun _ => ?_) (fun _ => ?_)
  · refine sn_aload_n (y := m_X10_both) (pc := 19) dX10_both_19 rfl ?_
    refine sn_iconst (y := m_X10_both) (pc := 20) dX10_both_20 kc_iconst_1 ?_
    refine sn_bipush (y := m_X10_both) (pc := 21) dX10_both_21 kc_bipush_m2 ?_
    refine sn_invV (y := m_X10_both) (pc := 23) ca_8 (av := [vI (1 : Int32), vI (-2 : Int32)]) (o := p0) (st := []) dX10_both_23 lk_X10_85 im_X10_refused se_X10_refused rfl rfl rfl rfl ⟨by decide, by decide⟩ (c_X10_refused cx.1 p0 (1 : Int32) (-2 : Int32)) (fun r2 => ?_)
    exact sn_ireturn rfl dX10_both_26
  refine sn_iload_n (y := m_X10_both) (pc := 7) dX10_both_7 rfl ?_
  refine sn_invS (y := m_X10_both) (pc := 8) (av := [vI p2]) (st := []) dX10_both_8 lk_X10_210 sw_X8_isOddPrime rfl rfl rfl ⟨by decide, by decide⟩ (c_X8_isOddPrime cx.1 p2) (fun r3 => ?_)
  refine sn_if_eq (y := m_X10_both) (pc := 11) (tgt := 19) dX10_both_11 (by decide) (fun _ => ?_) (fun _ => ?_)
  · refine sn_aload_n (y := m_X10_both) (pc := 19) dX10_both_19 rfl ?_
    refine sn_iconst (y := m_X10_both) (pc := 20) dX10_both_20 kc_iconst_1 ?_
    refine sn_bipush (y := m_X10_both) (pc := 21) dX10_both_21 kc_bipush_m2 ?_
    refine sn_invV (y := m_X10_both) (pc := 23) ca_8 (av := [vI (1 : Int32), vI (-2 : Int32)]) (o := p0) (st := []) dX10_both_23 lk_X10_85 im_X10_refused se_X10_refused rfl rfl rfl rfl ⟨by decide, by decide⟩ (c_X10_refused cx.1 p0 (1 : Int32) (-2 : Int32)) (fun r4 => ?_)
    exact sn_ireturn rfl dX10_both_26
  refine sn_iload_n (y := m_X10_both) (pc := 14) dX10_both_14 rfl ?_
  refine sn_iload_n (y := m_X10_both) (pc := 15) dX10_both_15 rfl ?_
  refine sn_icmp_ne (y := m_X10_both) (pc := 16) (tgt := 27) dX10_both_16 (by decide) (fun _ => ?_) (fun _ => ?_)
  · refine sn_aload_n (y := m_X10_both) (pc := 27) dX10_both_27 rfl ?_
    refine sn_iload_n (y := m_X10_both) (pc := 28) dX10_both_28 rfl ?_
    refine sn_iload_n (y := m_X10_both) (pc := 29) dX10_both_29 rfl ?_
    refine sn_invS (y := m_X10_both) (pc := 30) (av := [vI p1, vI p2]) (st := [vA p0]) dX10_both_30 lk_X10_215 sw_X8_signOf rfl rfl rfl ⟨by decide, by decide⟩ (c_X8_signOf cx.1 p1 p2) (fun r5 => ?_)
    refine sn_iload_n (y := m_X10_both) (pc := 33) dX10_both_33 rfl ?_
    refine sn_iload_n (y := m_X10_both) (pc := 34) dX10_both_34 rfl ?_
    refine sn_invS (y := m_X10_both) (pc := 35) (av := [vI p2, vI p1]) (st := [vI r5, vA p0]) dX10_both_35 lk_X10_215 sw_X8_signOf rfl rfl rfl ⟨by decide, by decide⟩ (c_X8_signOf cx.1 p2 p1) (fun r6 => ?_)
    refine sn_imul (y := m_X10_both) (pc := 38) dX10_both_38 ?_
    refine sn_invV (y := m_X10_both) (pc := 39) ca_8 (av := [vI (r5 * r6)]) (o := p0) (st := []) dX10_both_39 lk_X10_108 im_X10_answered se_X10_answered rfl rfl rfl rfl ⟨by decide, by decide⟩ (c_X10_answered cx.1 p0 (r5 * r6)) (fun r7 => ?_)
    exact sn_ireturn rfl dX10_both_42
  refine sn_aload_n (y := m_X10_both) (pc := 19) dX10_both_19 rfl ?_
  refine sn_iconst (y := m_X10_both) (pc := 20) dX10_both_20 kc_iconst_1 ?_
  refine sn_bipush (y := m_X10_both) (pc := 21) dX10_both_21 kc_bipush_m2 ?_
  refine sn_invV (y := m_X10_both) (pc := 23) ca_8 (av := [vI (1 : Int32), vI (-2 : Int32)]) (o := p0) (st := []) dX10_both_23 lk_X10_85 im_X10_refused se_X10_refused rfl rfl rfl rfl ⟨by decide, by decide⟩ (c_X10_refused cx.1 p0 (1 : Int32) (-2 : Int32)) (fun r8 => ?_)
  exact sn_ireturn rfl dX10_both_26
set_option maxRecDepth 100000 in
theorem c_X10_both (g : Gl) (p0 : (Option Nat)) (p1 : Int32) (p2 : Int32) : Cn g m_X10_both eI [vA p0, vI p1, vI p2] (mCk 8 p0 (f_X10_both p0 p1 p2)) := cn_of_sn (by decide +kernel) rfl (fun r => ⟨r, rfl⟩) rfl (fun _ _ => sn_ck (s_X10_both p0 p1 p2))
/-! X10_form -/
def f_X10_form (p0 : (Option Nat)) (p1 : Int32) (p2 : Int32) : Mo Int32 :=
  mBd (f_X8_isOddPrime p1) (fun r1 => (if ¬ r1 = 0 then (if p2 < (1 : Int32) then mBd (mCk 8 p0 (f_X10_refused p0 (2 : Int32) (-1 : Int32))) (fun r2 => mRt r2) else (if p2 ≤ (99 : Int32) then mBd (f_X8_leastForm p1 p2) (fun r3 => mBd (mCk 8 p0 (f_X10_answered p0 r3)) (fun r4 => mRt r4)) else mBd (mCk 8 p0 (f_X10_refused p0 (2 : Int32) (-1 : Int32))) (fun r5 => mRt r5))) else mBd (mCk 8 p0 (f_X10_refused p0 (1 : Int32) (-1 : Int32))) (fun r6 => mRt r6)))
set_option maxRecDepth 100000 in
theorem s_X10_form {cx : CX} (p0 : (Option Nat)) (p1 : Int32) (p2 : Int32) : Sn cx m_X10_form eI 0 [(0, vA p0), (1, vI p1), (2, vI p2)] [] (f_X10_form p0 p1 p2) := by
  refine sn_iload_n (y := m_X10_form) (pc := 0) dX10_form_0 rfl ?_
  refine sn_invS (y := m_X10_form) (pc := 1) (av := [vI p1]) (st := []) dX10_form_1 lk_X10_210 sw_X8_isOddPrime rfl rfl rfl ⟨by decide, by decide⟩ (c_X8_isOddPrime cx.1 p1) (fun r1 => ?_)
  refine sn_if_ne (y := m_X10_form) (pc := 4) (tgt := 14) dX10_form_4 (by decide) (fun _ => ?_) (fun _ => ?_)
  · refine sn_iload_n (y := m_X10_form) (pc := 14) dX10_form_14 rfl ?_
    refine sn_iconst (y := m_X10_form) (pc := 15) dX10_form_15 kc_iconst_1 ?_
    refine sn_icmp_lt (y := m_X10_form) (pc := 16) (tgt := 25) dX10_form_16 (by decide) (fun _ => ?_) (fun _ => ?_)
    · refine sn_aload_n (y := m_X10_form) (pc := 25) dX10_form_25 rfl ?_
      refine sn_iconst (y := m_X10_form) (pc := 26) dX10_form_26 kc_iconst_2 ?_
      refine sn_iconst (y := m_X10_form) (pc := 27) dX10_form_27 kc_iconst_m1 ?_
      refine sn_invV (y := m_X10_form) (pc := 28) ca_8 (av := [vI (2 : Int32), vI (-1 : Int32)]) (o := p0) (st := []) dX10_form_28 lk_X10_85 im_X10_refused se_X10_refused rfl rfl rfl rfl ⟨by decide, by decide⟩ (c_X10_refused cx.1 p0 (2 : Int32) (-1 : Int32)) (fun r2 => ?_)
      exact sn_ireturn rfl dX10_form_31
    refine sn_iload_n (y := m_X10_form) (pc := 19) dX10_form_19 rfl ?_
    refine sn_bipush (y := m_X10_form) (pc := 20) dX10_form_20 kc_bipush_99 ?_
    refine sn_icmp_le (y := m_X10_form) (pc := 22) (tgt := 32) dX10_form_22 (by decide) (fun _ => ?_) (fun _ => ?_)
    · refine sn_aload_n (y := m_X10_form) (pc := 32) dX10_form_32 rfl ?_
      refine sn_iload_n (y := m_X10_form) (pc := 33) dX10_form_33 rfl ?_
      refine sn_iload_n (y := m_X10_form) (pc := 34) dX10_form_34 rfl ?_
      refine sn_invS (y := m_X10_form) (pc := 35) (av := [vI p1, vI p2]) (st := [vA p0]) dX10_form_35 lk_X10_218 sw_X8_leastForm rfl rfl rfl ⟨by decide, by decide⟩ (c_X8_leastForm cx.1 p1 p2) (fun r3 => ?_)
      refine sn_invV (y := m_X10_form) (pc := 38) ca_8 (av := [vI r3]) (o := p0) (st := []) dX10_form_38 lk_X10_108 im_X10_answered se_X10_answered rfl rfl rfl rfl ⟨by decide, by decide⟩ (c_X10_answered cx.1 p0 r3) (fun r4 => ?_)
      exact sn_ireturn rfl dX10_form_41
    refine sn_aload_n (y := m_X10_form) (pc := 25) dX10_form_25 rfl ?_
    refine sn_iconst (y := m_X10_form) (pc := 26) dX10_form_26 kc_iconst_2 ?_
    refine sn_iconst (y := m_X10_form) (pc := 27) dX10_form_27 kc_iconst_m1 ?_
    refine sn_invV (y := m_X10_form) (pc := 28) ca_8 (av := [vI (2 : Int32), vI (-1 : Int32)]) (o := p0) (st := []) dX10_form_28 lk_X10_85 im_X10_refused se_X10_refused rfl rfl rfl rfl ⟨by decide, by decide⟩ (c_X10_refused cx.1 p0 (2 : Int32) (-1 : Int32)) (fun r5 => ?_)
    exact sn_ireturn rfl dX10_form_31
  refine sn_aload_n (y := m_X10_form) (pc := 7) dX10_form_7 rfl ?_
  refine sn_iconst (y := m_X10_form) (pc := 8) dX10_form_8 kc_iconst_1 ?_
  refine sn_iconst (y := m_X10_form) (pc := 9) dX10_form_9 kc_iconst_m1 ?_
  refine sn_invV (y := m_X10_form) (pc := 10) ca_8 (av := [vI (1 : Int32), vI (-1 : Int32)]) (o := p0) (st := []) dX10_form_10 lk_X10_85 im_X10_refused se_X10_refused rfl rfl rfl rfl ⟨by decide, by decide⟩ (c_X10_refused cx.1 p0 (1 : Int32) (-1 : Int32)) (fun r6 => ?_)
  exact sn_ireturn rfl dX10_form_13
set_option maxRecDepth 100000 in
theorem c_X10_form (g : Gl) (p0 : (Option Nat)) (p1 : Int32) (p2 : Int32) : Cn g m_X10_form eI [vA p0, vI p1, vI p2] (mCk 8 p0 (f_X10_form p0 p1 p2)) := cn_of_sn (by decide +kernel) rfl (fun r => ⟨r, rfl⟩) rfl (fun _ _ => sn_ck (s_X10_form p0 p1 p2))
/-! X10_power -/
def f_X10_power (p0 : (Option Nat)) (p1 : Int32) (p2 : Int32) (p3 : Int32) : Mo Int32 :=
  mBd (mGetA 8 8 p0) (fun r1 => mBd (mCk 0 r1 (f_X0_fieldAt r1 p1)) (fun r2 => (if r2 = none then mBd (mCk 8 p0 (f_X10_refused p0 (1 : Int32) (-1 : Int32))) (fun r10 => mRt r10) else mBd (mCk 2 r2 (f_X2_hasUnit r2 p2)) (fun r3 => (if r3 = 0 then mBd (mCk 8 p0 (f_X10_refused p0 (2 : Int32) (-1 : Int32))) (fun r4 => mRt r4) else (if p3 < (1 : Int32) then mBd (mCk 8 p0 (f_X10_refused p0 (2 : Int32) (-1 : Int32))) (fun r5 => mRt r5) else (if p3 ≤ (12 : Int32) then mBd (mCk 2 r2 (f_X2_isPower r2 p2 p3)) (fun r6 => (if r6 = 0 then mBd (mCk 8 p0 (f_X10_answered p0 (0 : Int32))) (fun r7 => mRt r7) else mBd (mCk 8 p0 (f_X10_answered p0 (1 : Int32))) (fun r8 => mRt r8))) else mBd (mCk 8 p0 (f_X10_refused p0 (2 : Int32) (-1 : Int32))) (fun r9 => mRt r9))))))))
set_option maxRecDepth 100000 in
theorem s_X10_power {cx : CX} (p0 : (Option Nat)) (p1 : Int32) (p2 : Int32) (p3 : Int32) : Sn cx m_X10_power eI 0 [(0, vA p0), (1, vI p1), (2, vI p2), (3, vI p3)] [] (f_X10_power p0 p1 p2 p3) := by
  refine sn_aload_n (y := m_X10_power) (pc := 0) dX10_power_0 rfl ?_
  refine sn_getA (y := m_X10_power) (pc := 1) ca_8 rfl fk_X10_53 (fun _ _ _ => rfl) dX10_power_1 (fun r1 => ?_)
  refine sn_iload_n (y := m_X10_power) (pc := 4) dX10_power_4 rfl ?_
  refine sn_invV (y := m_X10_power) (pc := 5) ca_0 (av := [vI p1]) (o := r1) (st := []) dX10_power_5 lk_X10_111 im_X0_fieldAt se_X0_fieldAt rfl rfl rfl rfl ⟨by decide, by decide⟩ (c_X0_fieldAt cx.1 r1 p1) (fun r2 => ?_)
  refine sn_astore (y := m_X10_power) (pc := 8) dX10_power_8 rfl ?_
  refine sn_aload (y := m_X10_power) (pc := 10) dX10_power_10 rfl ?_
  refine sn_ifnonnull (y := m_X10_power) (pc := 12) (tgt := 22) dX10_power_12 (by decide) ?_ ?_
  · refine sn_aload_n (y := m_X10_power) (pc := 15) dX10_power_15 rfl ?_
    refine sn_iconst (y := m_X10_power) (pc := 16) dX10_power_16 kc_iconst_1 ?_
    refine sn_iconst (y := m_X10_power) (pc := 17) dX10_power_17 kc_iconst_m1 ?_
    refine sn_invV (y := m_X10_power) (pc := 18) ca_8 (av := [vI (1 : Int32), vI (-1 : Int32)]) (o := p0) (st := []) dX10_power_18 lk_X10_85 im_X10_refused se_X10_refused rfl rfl rfl rfl ⟨by decide, by decide⟩ (c_X10_refused cx.1 p0 (1 : Int32) (-1 : Int32)) (fun r10 => ?_)
    exact sn_ireturn rfl dX10_power_21
  refine sn_aload (y := m_X10_power) (pc := 22) dX10_power_22 rfl ?_
  refine sn_iload_n (y := m_X10_power) (pc := 24) dX10_power_24 rfl ?_
  refine sn_invV (y := m_X10_power) (pc := 25) ca_2 (av := [vI p2]) (o := r2) (st := []) dX10_power_25 lk_X10_129 im_X2_hasUnit se_X2_hasUnit rfl rfl rfl rfl ⟨by decide, by decide⟩ (c_X2_hasUnit cx.1 r2 p2) (fun r3 => ?_)
  refine sn_if_eq (y := m_X10_power) (pc := 28) (tgt := 42) dX10_power_28 (by decide) (fun _ => ?_) (fun _ => ?_)
  · refine sn_aload_n (y := m_X10_power) (pc := 42) dX10_power_42 rfl ?_
    refine sn_iconst (y := m_X10_power) (pc := 43) dX10_power_43 kc_iconst_2 ?_
    refine sn_iconst (y := m_X10_power) (pc := 44) dX10_power_44 kc_iconst_m1 ?_
    refine sn_invV (y := m_X10_power) (pc := 45) ca_8 (av := [vI (2 : Int32), vI (-1 : Int32)]) (o := p0) (st := []) dX10_power_45 lk_X10_85 im_X10_refused se_X10_refused rfl rfl rfl rfl ⟨by decide, by decide⟩ (c_X10_refused cx.1 p0 (2 : Int32) (-1 : Int32)) (fun r4 => ?_)
    exact sn_ireturn rfl dX10_power_48
  refine sn_iload_n (y := m_X10_power) (pc := 31) dX10_power_31 rfl ?_
  refine sn_iconst (y := m_X10_power) (pc := 32) dX10_power_32 kc_iconst_1 ?_
  refine sn_icmp_lt (y := m_X10_power) (pc := 33) (tgt := 42) dX10_power_33 (by decide) (fun _ => ?_) (fun _ => ?_)
  · refine sn_aload_n (y := m_X10_power) (pc := 42) dX10_power_42 rfl ?_
    refine sn_iconst (y := m_X10_power) (pc := 43) dX10_power_43 kc_iconst_2 ?_
    refine sn_iconst (y := m_X10_power) (pc := 44) dX10_power_44 kc_iconst_m1 ?_
    refine sn_invV (y := m_X10_power) (pc := 45) ca_8 (av := [vI (2 : Int32), vI (-1 : Int32)]) (o := p0) (st := []) dX10_power_45 lk_X10_85 im_X10_refused se_X10_refused rfl rfl rfl rfl ⟨by decide, by decide⟩ (c_X10_refused cx.1 p0 (2 : Int32) (-1 : Int32)) (fun r5 => ?_)
    exact sn_ireturn rfl dX10_power_48
  refine sn_iload_n (y := m_X10_power) (pc := 36) dX10_power_36 rfl ?_
  refine sn_bipush (y := m_X10_power) (pc := 37) dX10_power_37 kc_bipush_12 ?_
  refine sn_icmp_le (y := m_X10_power) (pc := 39) (tgt := 49) dX10_power_39 (by decide) (fun _ => ?_) (fun _ => ?_)
  · refine sn_aload_n (y := m_X10_power) (pc := 49) dX10_power_49 rfl ?_
    refine sn_aload (y := m_X10_power) (pc := 50) dX10_power_50 rfl ?_
    refine sn_iload_n (y := m_X10_power) (pc := 52) dX10_power_52 rfl ?_
    refine sn_iload_n (y := m_X10_power) (pc := 53) dX10_power_53 rfl ?_
    refine sn_invV (y := m_X10_power) (pc := 54) ca_2 (av := [vI p2, vI p3]) (o := r2) (st := [vA p0]) dX10_power_54 lk_X10_221 im_X2_isPower se_X2_isPower rfl rfl rfl rfl ⟨by decide, by decide⟩ (c_X2_isPower cx.1 r2 p2 p3) (fun r6 => ?_)
    refine sn_if_eq (y := m_X10_power) (pc := 57) (tgt := 64) dX10_power_57 (by decide) (fun _ => ?_) (fun _ => ?_)
    · refine sn_iconst (y := m_X10_power) (pc := 64) dX10_power_64 kc_iconst_0 ?_
      refine sn_invV (y := m_X10_power) (pc := 65) ca_8 (av := [vI (0 : Int32)]) (o := p0) (st := []) dX10_power_65 lk_X10_108 im_X10_answered se_X10_answered rfl rfl rfl rfl ⟨by decide, by decide⟩ (c_X10_answered cx.1 p0 (0 : Int32)) (fun r7 => ?_)
      exact sn_ireturn rfl dX10_power_68
    refine sn_iconst (y := m_X10_power) (pc := 60) dX10_power_60 kc_iconst_1 ?_
    refine sn_goto (y := m_X10_power) (pc := 61) (tgt := 65) dX10_power_61 (by decide) ?_
    refine sn_invV (y := m_X10_power) (pc := 65) ca_8 (av := [vI (1 : Int32)]) (o := p0) (st := []) dX10_power_65 lk_X10_108 im_X10_answered se_X10_answered rfl rfl rfl rfl ⟨by decide, by decide⟩ (c_X10_answered cx.1 p0 (1 : Int32)) (fun r8 => ?_)
    exact sn_ireturn rfl dX10_power_68
  refine sn_aload_n (y := m_X10_power) (pc := 42) dX10_power_42 rfl ?_
  refine sn_iconst (y := m_X10_power) (pc := 43) dX10_power_43 kc_iconst_2 ?_
  refine sn_iconst (y := m_X10_power) (pc := 44) dX10_power_44 kc_iconst_m1 ?_
  refine sn_invV (y := m_X10_power) (pc := 45) ca_8 (av := [vI (2 : Int32), vI (-1 : Int32)]) (o := p0) (st := []) dX10_power_45 lk_X10_85 im_X10_refused se_X10_refused rfl rfl rfl rfl ⟨by decide, by decide⟩ (c_X10_refused cx.1 p0 (2 : Int32) (-1 : Int32)) (fun r9 => ?_)
  exact sn_ireturn rfl dX10_power_48
set_option maxRecDepth 100000 in
theorem c_X10_power (g : Gl) (p0 : (Option Nat)) (p1 : Int32) (p2 : Int32) (p3 : Int32) : Cn g m_X10_power eI [vA p0, vI p1, vI p2, vI p3] (mCk 8 p0 (f_X10_power p0 p1 p2 p3)) := cn_of_sn (by decide +kernel) rfl (fun r => ⟨r, rfl⟩) rfl (fun _ _ => sn_ck (s_X10_power p0 p1 p2 p3))
/-! X10_classSums -/
def f_X10_classSums (p0 : (Option Nat)) (p1 : Int32) : Mo Int32 :=
  (if p1 < (7 : Int32) then mBd (mCk 8 p0 (f_X10_refused p0 (2 : Int32) (-1 : Int32))) (fun r1 => mRt r1) else (if ¬ (irem p1 (4 : Int32)) = (3 : Int32) then mBd (mCk 8 p0 (f_X10_refused p0 (2 : Int32) (-1 : Int32))) (fun r2 => mRt r2) else mBd (f_X8_isOddPrime p1) (fun r3 => (if ¬ r3 = 0 then mBd (f_X8_classBySums p1) (fun r4 => mBd (mCk 8 p0 (f_X10_answered p0 r4)) (fun r5 => mRt r5)) else mBd (mCk 8 p0 (f_X10_refused p0 (2 : Int32) (-1 : Int32))) (fun r6 => mRt r6)))))
set_option maxRecDepth 100000 in
theorem s_X10_classSums {cx : CX} (p0 : (Option Nat)) (p1 : Int32) : Sn cx m_X10_classSums eI 0 [(0, vA p0), (1, vI p1)] [] (f_X10_classSums p0 p1) := by
  refine sn_iload_n (y := m_X10_classSums) (pc := 0) dX10_classSums_0 rfl ?_
  refine sn_bipush (y := m_X10_classSums) (pc := 1) dX10_classSums_1 kc_bipush_7 ?_
  refine sn_icmp_lt (y := m_X10_classSums) (pc := 3) (tgt := 20) dX10_classSums_3 (by decide) (fun _ => ?_) (fun _ => ?_)
  · refine sn_aload_n (y := m_X10_classSums) (pc := 20) dX10_classSums_20 rfl ?_
    refine sn_iconst (y := m_X10_classSums) (pc := 21) dX10_classSums_21 kc_iconst_2 ?_
    refine sn_iconst (y := m_X10_classSums) (pc := 22) dX10_classSums_22 kc_iconst_m1 ?_
    refine sn_invV (y := m_X10_classSums) (pc := 23) ca_8 (av := [vI (2 : Int32), vI (-1 : Int32)]) (o := p0) (st := []) dX10_classSums_23 lk_X10_85 im_X10_refused se_X10_refused rfl rfl rfl rfl ⟨by decide, by decide⟩ (c_X10_refused cx.1 p0 (2 : Int32) (-1 : Int32)) (fun r1 => ?_)
    exact sn_ireturn rfl dX10_classSums_26
  refine sn_iload_n (y := m_X10_classSums) (pc := 6) dX10_classSums_6 rfl ?_
  refine sn_iconst (y := m_X10_classSums) (pc := 7) dX10_classSums_7 kc_iconst_4 ?_
  refine sn_iremC (y := m_X10_classSums) (pc := 8) (by decide) dX10_classSums_8 ?_
  refine sn_iconst (y := m_X10_classSums) (pc := 9) dX10_classSums_9 kc_iconst_3 ?_
  refine sn_icmp_ne (y := m_X10_classSums) (pc := 10) (tgt := 20) dX10_classSums_10 (by decide) (fun _ => ?_) (fun _ => ?_)
  · refine sn_aload_n (y := m_X10_classSums) (pc := 20) dX10_classSums_20 rfl ?_
    refine sn_iconst (y := m_X10_classSums) (pc := 21) dX10_classSums_21 kc_iconst_2 ?_
    refine sn_iconst (y := m_X10_classSums) (pc := 22) dX10_classSums_22 kc_iconst_m1 ?_
    refine sn_invV (y := m_X10_classSums) (pc := 23) ca_8 (av := [vI (2 : Int32), vI (-1 : Int32)]) (o := p0) (st := []) dX10_classSums_23 lk_X10_85 im_X10_refused se_X10_refused rfl rfl rfl rfl ⟨by decide, by decide⟩ (c_X10_refused cx.1 p0 (2 : Int32) (-1 : Int32)) (fun r2 => ?_)
    exact sn_ireturn rfl dX10_classSums_26
  refine sn_iload_n (y := m_X10_classSums) (pc := 13) dX10_classSums_13 rfl ?_
  refine sn_invS (y := m_X10_classSums) (pc := 14) (av := [vI p1]) (st := []) dX10_classSums_14 lk_X10_210 sw_X8_isOddPrime rfl rfl rfl ⟨by decide, by decide⟩ (c_X8_isOddPrime cx.1 p1) (fun r3 => ?_)
  refine sn_if_ne (y := m_X10_classSums) (pc := 17) (tgt := 27) dX10_classSums_17 (by decide) (fun _ => ?_) (fun _ => ?_)
  · refine sn_aload_n (y := m_X10_classSums) (pc := 27) dX10_classSums_27 rfl ?_
    refine sn_iload_n (y := m_X10_classSums) (pc := 28) dX10_classSums_28 rfl ?_
    refine sn_invS (y := m_X10_classSums) (pc := 29) (av := [vI p1]) (st := [vA p0]) dX10_classSums_29 lk_X10_225 sw_X8_classBySums rfl rfl rfl ⟨by decide, by decide⟩ (c_X8_classBySums cx.1 p1) (fun r4 => ?_)
    refine sn_invV (y := m_X10_classSums) (pc := 32) ca_8 (av := [vI r4]) (o := p0) (st := []) dX10_classSums_32 lk_X10_108 im_X10_answered se_X10_answered rfl rfl rfl rfl ⟨by decide, by decide⟩ (c_X10_answered cx.1 p0 r4) (fun r5 => ?_)
    exact sn_ireturn rfl dX10_classSums_35
  refine sn_aload_n (y := m_X10_classSums) (pc := 20) dX10_classSums_20 rfl ?_
  refine sn_iconst (y := m_X10_classSums) (pc := 21) dX10_classSums_21 kc_iconst_2 ?_
  refine sn_iconst (y := m_X10_classSums) (pc := 22) dX10_classSums_22 kc_iconst_m1 ?_
  refine sn_invV (y := m_X10_classSums) (pc := 23) ca_8 (av := [vI (2 : Int32), vI (-1 : Int32)]) (o := p0) (st := []) dX10_classSums_23 lk_X10_85 im_X10_refused se_X10_refused rfl rfl rfl rfl ⟨by decide, by decide⟩ (c_X10_refused cx.1 p0 (2 : Int32) (-1 : Int32)) (fun r6 => ?_)
  exact sn_ireturn rfl dX10_classSums_26
set_option maxRecDepth 100000 in
theorem c_X10_classSums (g : Gl) (p0 : (Option Nat)) (p1 : Int32) : Cn g m_X10_classSums eI [vA p0, vI p1] (mCk 8 p0 (f_X10_classSums p0 p1)) := cn_of_sn (by decide +kernel) rfl (fun r => ⟨r, rfl⟩) rfl (fun _ _ => sn_ck (s_X10_classSums p0 p1))
/-! X10_classForms -/
def f_X10_classForms (p0 : (Option Nat)) (p1 : Int32) : Mo Int32 :=
  (if p1 < (3 : Int32) then mBd (mCk 8 p0 (f_X10_refused p0 (2 : Int32) (-1 : Int32))) (fun r1 => mRt r1) else (if p1 > (999 : Int32) then mBd (mCk 8 p0 (f_X10_refused p0 (2 : Int32) (-1 : Int32))) (fun r2 => mRt r2) else (if (irem p1 (4 : Int32)) = (1 : Int32) then mBd (mCk 8 p0 (f_X10_refused p0 (2 : Int32) (-1 : Int32))) (fun r3 => mRt r3) else (if ¬ (irem p1 (4 : Int32)) = (2 : Int32) then mBd (f_X8_classByForms p1) (fun r4 => mBd (mCk 8 p0 (f_X10_answered p0 r4)) (fun r5 => mRt r5)) else mBd (mCk 8 p0 (f_X10_refused p0 (2 : Int32) (-1 : Int32))) (fun r6 => mRt r6)))))
set_option maxRecDepth 100000 in
theorem s_X10_classForms {cx : CX} (p0 : (Option Nat)) (p1 : Int32) : Sn cx m_X10_classForms eI 0 [(0, vA p0), (1, vI p1)] [] (f_X10_classForms p0 p1) := by
  refine sn_iload_n (y := m_X10_classForms) (pc := 0) dX10_classForms_0 rfl ?_
  refine sn_iconst (y := m_X10_classForms) (pc := 1) dX10_classForms_1 kc_iconst_3 ?_
  refine sn_icmp_lt (y := m_X10_classForms) (pc := 2) (tgt := 26) dX10_classForms_2 (by decide) (fun _ => ?_) (fun _ => ?_)
  · refine sn_aload_n (y := m_X10_classForms) (pc := 26) dX10_classForms_26 rfl ?_
    refine sn_iconst (y := m_X10_classForms) (pc := 27) dX10_classForms_27 kc_iconst_2 ?_
    refine sn_iconst (y := m_X10_classForms) (pc := 28) dX10_classForms_28 kc_iconst_m1 ?_
    refine sn_invV (y := m_X10_classForms) (pc := 29) ca_8 (av := [vI (2 : Int32), vI (-1 : Int32)]) (o := p0) (st := []) dX10_classForms_29 lk_X10_85 im_X10_refused se_X10_refused rfl rfl rfl rfl ⟨by decide, by decide⟩ (c_X10_refused cx.1 p0 (2 : Int32) (-1 : Int32)) (fun r1 => ?_)
    exact sn_ireturn rfl dX10_classForms_32
  refine sn_iload_n (y := m_X10_classForms) (pc := 5) dX10_classForms_5 rfl ?_
  refine sn_sipush (y := m_X10_classForms) (pc := 6) dX10_classForms_6 kc_sipush_999 ?_
  refine sn_icmp_gt (y := m_X10_classForms) (pc := 9) (tgt := 26) dX10_classForms_9 (by decide) (fun _ => ?_) (fun _ => ?_)
  · refine sn_aload_n (y := m_X10_classForms) (pc := 26) dX10_classForms_26 rfl ?_
    refine sn_iconst (y := m_X10_classForms) (pc := 27) dX10_classForms_27 kc_iconst_2 ?_
    refine sn_iconst (y := m_X10_classForms) (pc := 28) dX10_classForms_28 kc_iconst_m1 ?_
    refine sn_invV (y := m_X10_classForms) (pc := 29) ca_8 (av := [vI (2 : Int32), vI (-1 : Int32)]) (o := p0) (st := []) dX10_classForms_29 lk_X10_85 im_X10_refused se_X10_refused rfl rfl rfl rfl ⟨by decide, by decide⟩ (c_X10_refused cx.1 p0 (2 : Int32) (-1 : Int32)) (fun r2 => ?_)
    exact sn_ireturn rfl dX10_classForms_32
  refine sn_iload_n (y := m_X10_classForms) (pc := 12) dX10_classForms_12 rfl ?_
  refine sn_iconst (y := m_X10_classForms) (pc := 13) dX10_classForms_13 kc_iconst_4 ?_
  refine sn_iremC (y := m_X10_classForms) (pc := 14) (by decide) dX10_classForms_14 ?_
  refine sn_iconst (y := m_X10_classForms) (pc := 15) dX10_classForms_15 kc_iconst_1 ?_
  refine sn_icmp_eq (y := m_X10_classForms) (pc := 16) (tgt := 26) dX10_classForms_16 (by decide) (fun _ => ?_) (fun _ => ?_)
  · refine sn_aload_n (y := m_X10_classForms) (pc := 26) dX10_classForms_26 rfl ?_
    refine sn_iconst (y := m_X10_classForms) (pc := 27) dX10_classForms_27 kc_iconst_2 ?_
    refine sn_iconst (y := m_X10_classForms) (pc := 28) dX10_classForms_28 kc_iconst_m1 ?_
    refine sn_invV (y := m_X10_classForms) (pc := 29) ca_8 (av := [vI (2 : Int32), vI (-1 : Int32)]) (o := p0) (st := []) dX10_classForms_29 lk_X10_85 im_X10_refused se_X10_refused rfl rfl rfl rfl ⟨by decide, by decide⟩ (c_X10_refused cx.1 p0 (2 : Int32) (-1 : Int32)) (fun r3 => ?_)
    exact sn_ireturn rfl dX10_classForms_32
  refine sn_iload_n (y := m_X10_classForms) (pc := 19) dX10_classForms_19 rfl ?_
  refine sn_iconst (y := m_X10_classForms) (pc := 20) dX10_classForms_20 kc_iconst_4 ?_
  refine sn_iremC (y := m_X10_classForms) (pc := 21) (by decide) dX10_classForms_21 ?_
  refine sn_iconst (y := m_X10_classForms) (pc := 22) dX10_classForms_22 kc_iconst_2 ?_
  refine sn_icmp_ne (y := m_X10_classForms) (pc := 23) (tgt := 33) dX10_classForms_23 (by decide) (fun _ => ?_) (fun _ => ?_)
  · refine sn_aload_n (y := m_X10_classForms) (pc := 33) dX10_classForms_33 rfl ?_
    refine sn_iload_n (y := m_X10_classForms) (pc := 34) dX10_classForms_34 rfl ?_
    refine sn_invS (y := m_X10_classForms) (pc := 35) (av := [vI p1]) (st := [vA p0]) dX10_classForms_35 lk_X10_228 sw_X8_classByForms rfl rfl rfl ⟨by decide, by decide⟩ (c_X8_classByForms cx.1 p1) (fun r4 => ?_)
    refine sn_invV (y := m_X10_classForms) (pc := 38) ca_8 (av := [vI r4]) (o := p0) (st := []) dX10_classForms_38 lk_X10_108 im_X10_answered se_X10_answered rfl rfl rfl rfl ⟨by decide, by decide⟩ (c_X10_answered cx.1 p0 r4) (fun r5 => ?_)
    exact sn_ireturn rfl dX10_classForms_41
  refine sn_aload_n (y := m_X10_classForms) (pc := 26) dX10_classForms_26 rfl ?_
  refine sn_iconst (y := m_X10_classForms) (pc := 27) dX10_classForms_27 kc_iconst_2 ?_
  refine sn_iconst (y := m_X10_classForms) (pc := 28) dX10_classForms_28 kc_iconst_m1 ?_
  refine sn_invV (y := m_X10_classForms) (pc := 29) ca_8 (av := [vI (2 : Int32), vI (-1 : Int32)]) (o := p0) (st := []) dX10_classForms_29 lk_X10_85 im_X10_refused se_X10_refused rfl rfl rfl rfl ⟨by decide, by decide⟩ (c_X10_refused cx.1 p0 (2 : Int32) (-1 : Int32)) (fun r6 => ?_)
  exact sn_ireturn rfl dX10_classForms_32
set_option maxRecDepth 100000 in
theorem c_X10_classForms (g : Gl) (p0 : (Option Nat)) (p1 : Int32) : Cn g m_X10_classForms eI [vA p0, vI p1] (mCk 8 p0 (f_X10_classForms p0 p1)) := cn_of_sn (by decide +kernel) rfl (fun r => ⟨r, rfl⟩) rfl (fun _ _ => sn_ck (s_X10_classForms p0 p1))
/-! X10_meets -/
def f_X10_meets (p0 : (Option Nat)) (p1 : Int32) (p2 : Int32) (p3 : Int32) : Mo Int32 :=
  mBd (mGetA 8 8 p0) (fun r1 => mBd (mCk 0 r1 (f_X0_fieldAt r1 p1)) (fun r2 => mBd (f_X10_hasSum r2 p2 p3) (fun r3 => (if ¬ r3 = 0 then mBd (mCk 2 r2 (f_X2_meetings r2 p2 p3)) (fun r4 => mBd (mCk 8 p0 (f_X10_answered p0 r4)) (fun r5 => mRt r5)) else mBd (mCk 8 p0 (f_X10_refused p0 (1 : Int32) (-1 : Int32))) (fun r6 => mRt r6)))))
set_option maxRecDepth 100000 in
theorem s_X10_meets {cx : CX} (p0 : (Option Nat)) (p1 : Int32) (p2 : Int32) (p3 : Int32) : Sn cx m_X10_meets eI 0 [(0, vA p0), (1, vI p1), (2, vI p2), (3, vI p3)] [] (f_X10_meets p0 p1 p2 p3) := by
  refine sn_aload_n (y := m_X10_meets) (pc := 0) dX10_meets_0 rfl ?_
  refine sn_getA (y := m_X10_meets) (pc := 1) ca_8 rfl fk_X10_53 (fun _ _ _ => rfl) dX10_meets_1 (fun r1 => ?_)
  refine sn_iload_n (y := m_X10_meets) (pc := 4) dX10_meets_4 rfl ?_
  refine sn_invV (y := m_X10_meets) (pc := 5) ca_0 (av := [vI p1]) (o := r1) (st := []) dX10_meets_5 lk_X10_111 im_X0_fieldAt se_X0_fieldAt rfl rfl rfl rfl ⟨by decide, by decide⟩ (c_X0_fieldAt cx.1 r1 p1) (fun r2 => ?_)
  refine sn_astore (y := m_X10_meets) (pc := 8) dX10_meets_8 rfl ?_
  refine sn_aload (y := m_X10_meets) (pc := 10) dX10_meets_10 rfl ?_
  refine sn_iload_n (y := m_X10_meets) (pc := 12) dX10_meets_12 rfl ?_
  refine sn_iload_n (y := m_X10_meets) (pc := 13) dX10_meets_13 rfl ?_
  refine sn_invS (y := m_X10_meets) (pc := 14) (av := [vA r2, vI p2, vI p3]) (st := []) dX10_meets_14 lk_X10_144 sw_X10_hasSum rfl rfl rfl ⟨by decide, by decide⟩ (c_X10_hasSum cx.1 r2 p2 p3) (fun r3 => ?_)
  refine sn_if_ne (y := m_X10_meets) (pc := 17) (tgt := 27) dX10_meets_17 (by decide) (fun _ => ?_) (fun _ => ?_)
  · refine sn_aload_n (y := m_X10_meets) (pc := 27) dX10_meets_27 rfl ?_
    refine sn_aload (y := m_X10_meets) (pc := 28) dX10_meets_28 rfl ?_
    refine sn_iload_n (y := m_X10_meets) (pc := 30) dX10_meets_30 rfl ?_
    refine sn_iload_n (y := m_X10_meets) (pc := 31) dX10_meets_31 rfl ?_
    refine sn_invV (y := m_X10_meets) (pc := 32) ca_2 (av := [vI p2, vI p3]) (o := r2) (st := [vA p0]) dX10_meets_32 lk_X10_231 im_X2_meetings se_X2_meetings rfl rfl rfl rfl ⟨by decide, by decide⟩ (c_X2_meetings cx.1 r2 p2 p3) (fun r4 => ?_)
    refine sn_invV (y := m_X10_meets) (pc := 35) ca_8 (av := [vI r4]) (o := p0) (st := []) dX10_meets_35 lk_X10_108 im_X10_answered se_X10_answered rfl rfl rfl rfl ⟨by decide, by decide⟩ (c_X10_answered cx.1 p0 r4) (fun r5 => ?_)
    exact sn_ireturn rfl dX10_meets_38
  refine sn_aload_n (y := m_X10_meets) (pc := 20) dX10_meets_20 rfl ?_
  refine sn_iconst (y := m_X10_meets) (pc := 21) dX10_meets_21 kc_iconst_1 ?_
  refine sn_iconst (y := m_X10_meets) (pc := 22) dX10_meets_22 kc_iconst_m1 ?_
  refine sn_invV (y := m_X10_meets) (pc := 23) ca_8 (av := [vI (1 : Int32), vI (-1 : Int32)]) (o := p0) (st := []) dX10_meets_23 lk_X10_85 im_X10_refused se_X10_refused rfl rfl rfl rfl ⟨by decide, by decide⟩ (c_X10_refused cx.1 p0 (1 : Int32) (-1 : Int32)) (fun r6 => ?_)
  exact sn_ireturn rfl dX10_meets_26
set_option maxRecDepth 100000 in
theorem c_X10_meets (g : Gl) (p0 : (Option Nat)) (p1 : Int32) (p2 : Int32) (p3 : Int32) : Cn g m_X10_meets eI [vA p0, vI p1, vI p2, vI p3] (mCk 8 p0 (f_X10_meets p0 p1 p2 p3)) := cn_of_sn (by decide +kernel) rfl (fun r => ⟨r, rfl⟩) rfl (fun _ _ => sn_ck (s_X10_meets p0 p1 p2 p3))
/-! X10_even -/
def f_X10_even (p0 : (Option Nat)) (p1 : Int32) : Mo Int32 :=
  mBd (mGetA 8 8 p0) (fun r1 => mBd (mCk 0 r1 (f_X0_fieldAt r1 p1)) (fun r2 => (if r2 = none then mBd (mCk 8 p0 (f_X10_refused p0 (1 : Int32) (-1 : Int32))) (fun r5 => mRt r5) else mBd (mCk 2 r2 (f_X2_evenness r2)) (fun r3 => mBd (mCk 8 p0 (f_X10_answered p0 r3)) (fun r4 => mRt r4)))))
set_option maxRecDepth 100000 in
theorem s_X10_even {cx : CX} (p0 : (Option Nat)) (p1 : Int32) : Sn cx m_X10_even eI 0 [(0, vA p0), (1, vI p1)] [] (f_X10_even p0 p1) := by
  refine sn_aload_n (y := m_X10_even) (pc := 0) dX10_even_0 rfl ?_
  refine sn_getA (y := m_X10_even) (pc := 1) ca_8 rfl fk_X10_53 (fun _ _ _ => rfl) dX10_even_1 (fun r1 => ?_)
  refine sn_iload_n (y := m_X10_even) (pc := 4) dX10_even_4 rfl ?_
  refine sn_invV (y := m_X10_even) (pc := 5) ca_0 (av := [vI p1]) (o := r1) (st := []) dX10_even_5 lk_X10_111 im_X0_fieldAt se_X0_fieldAt rfl rfl rfl rfl ⟨by decide, by decide⟩ (c_X0_fieldAt cx.1 r1 p1) (fun r2 => ?_)
  refine sn_astore_n (y := m_X10_even) (pc := 8) dX10_even_8 rfl ?_
  refine sn_aload_n (y := m_X10_even) (pc := 9) dX10_even_9 rfl ?_
  refine sn_ifnonnull (y := m_X10_even) (pc := 10) (tgt := 20) dX10_even_10 (by decide) ?_ ?_
  · refine sn_aload_n (y := m_X10_even) (pc := 13) dX10_even_13 rfl ?_
    refine sn_iconst (y := m_X10_even) (pc := 14) dX10_even_14 kc_iconst_1 ?_
    refine sn_iconst (y := m_X10_even) (pc := 15) dX10_even_15 kc_iconst_m1 ?_
    refine sn_invV (y := m_X10_even) (pc := 16) ca_8 (av := [vI (1 : Int32), vI (-1 : Int32)]) (o := p0) (st := []) dX10_even_16 lk_X10_85 im_X10_refused se_X10_refused rfl rfl rfl rfl ⟨by decide, by decide⟩ (c_X10_refused cx.1 p0 (1 : Int32) (-1 : Int32)) (fun r5 => ?_)
    exact sn_ireturn rfl dX10_even_19
  refine sn_aload_n (y := m_X10_even) (pc := 20) dX10_even_20 rfl ?_
  refine sn_aload_n (y := m_X10_even) (pc := 21) dX10_even_21 rfl ?_
  refine sn_invV (y := m_X10_even) (pc := 22) ca_2 (av := []) (o := r2) (st := [vA p0]) dX10_even_22 lk_X10_234 im_X2_evenness se_X2_evenness rfl rfl rfl rfl ⟨by decide, by decide⟩ (c_X2_evenness cx.1 r2) (fun r3 => ?_)
  refine sn_invV (y := m_X10_even) (pc := 25) ca_8 (av := [vI r3]) (o := p0) (st := []) dX10_even_25 lk_X10_108 im_X10_answered se_X10_answered rfl rfl rfl rfl ⟨by decide, by decide⟩ (c_X10_answered cx.1 p0 r3) (fun r4 => ?_)
  exact sn_ireturn rfl dX10_even_28
set_option maxRecDepth 100000 in
theorem c_X10_even (g : Gl) (p0 : (Option Nat)) (p1 : Int32) : Cn g m_X10_even eI [vA p0, vI p1] (mCk 8 p0 (f_X10_even p0 p1)) := cn_of_sn (by decide +kernel) rfl (fun r => ⟨r, rfl⟩) rfl (fun _ _ => sn_ck (s_X10_even p0 p1))
/-! X10_echo -/
def f_X10_echo (p0 : (Option Nat)) (p1 : Int32) (p2 : Int32) (p3 : Int32) : Mo Int32 :=
  mBd (mGetA 8 8 p0) (fun r1 => mBd (mCk 0 r1 (f_X0_fieldAt r1 p1)) (fun r2 => (if r2 = none then mBd (mCk 8 p0 (f_X10_refused p0 (1 : Int32) (-1000 : Int32))) (fun r11 => mRt r11) else mBd (mCk 2 r2 (f_X2_hasNumber r2 p2)) (fun r3 => (if r3 = 0 then mBd (mCk 8 p0 (f_X10_refused p0 (2 : Int32) (-1000 : Int32))) (fun r4 => mRt r4) else mBd (mCk 2 r2 (f_X2_hasNumber r2 p3)) (fun r5 => (if ¬ r5 = 0 then mBd (mGetA 8 3 p0) (fun r6 => mBd (mCk 6 r6 (f_X7_become r6 r2)) (fun _ => mBd (mGetA 8 3 p0) (fun r7 => mBd (mCk 6 r7 (f_X7_echoAt r7 p2 p3)) (fun r8 => mBd (mCk 8 p0 (f_X10_answered p0 r8)) (fun r9 => mRt r9))))) else mBd (mCk 8 p0 (f_X10_refused p0 (2 : Int32) (-1000 : Int32))) (fun r10 => mRt r10))))))))
set_option maxRecDepth 100000 in
theorem s_X10_echo {cx : CX} (p0 : (Option Nat)) (p1 : Int32) (p2 : Int32) (p3 : Int32) : Sn cx m_X10_echo eI 0 [(0, vA p0), (1, vI p1), (2, vI p2), (3, vI p3)] [] (f_X10_echo p0 p1 p2 p3) := by
  refine sn_aload_n (y := m_X10_echo) (pc := 0) dX10_echo_0 rfl ?_
  refine sn_getA (y := m_X10_echo) (pc := 1) ca_8 rfl fk_X10_53 (fun _ _ _ => rfl) dX10_echo_1 (fun r1 => ?_)
  refine sn_iload_n (y := m_X10_echo) (pc := 4) dX10_echo_4 rfl ?_
  refine sn_invV (y := m_X10_echo) (pc := 5) ca_0 (av := [vI p1]) (o := r1) (st := []) dX10_echo_5 lk_X10_111 im_X0_fieldAt se_X0_fieldAt rfl rfl rfl rfl ⟨by decide, by decide⟩ (c_X0_fieldAt cx.1 r1 p1) (fun r2 => ?_)
  refine sn_astore (y := m_X10_echo) (pc := 8) dX10_echo_8 rfl ?_
  refine sn_aload (y := m_X10_echo) (pc := 10) dX10_echo_10 rfl ?_
  refine sn_ifnonnull (y := m_X10_echo) (pc := 12) (tgt := 24) dX10_echo_12 (by decide) ?_ ?_
  · refine sn_aload_n (y := m_X10_echo) (pc := 15) dX10_echo_15 rfl ?_
    refine sn_iconst (y := m_X10_echo) (pc := 16) dX10_echo_16 kc_iconst_1 ?_
    refine sn_sipush (y := m_X10_echo) (pc := 17) dX10_echo_17 kc_sipush_m1000 ?_
    refine sn_invV (y := m_X10_echo) (pc := 20) ca_8 (av := [vI (1 : Int32), vI (-1000 : Int32)]) (o := p0) (st := []) dX10_echo_20 lk_X10_85 im_X10_refused se_X10_refused rfl rfl rfl rfl ⟨by decide, by decide⟩ (c_X10_refused cx.1 p0 (1 : Int32) (-1000 : Int32)) (fun r11 => ?_)
    exact sn_ireturn rfl dX10_echo_23
  refine sn_aload (y := m_X10_echo) (pc := 24) dX10_echo_24 rfl ?_
  refine sn_iload_n (y := m_X10_echo) (pc := 26) dX10_echo_26 rfl ?_
  refine sn_invV (y := m_X10_echo) (pc := 27) ca_2 (av := [vI p2]) (o := r2) (st := []) dX10_echo_27 lk_X10_138 im_X2_hasNumber se_X2_hasNumber rfl rfl rfl rfl ⟨by decide, by decide⟩ (c_X2_hasNumber cx.1 r2 p2) (fun r3 => ?_)
  refine sn_if_eq (y := m_X10_echo) (pc := 30) (tgt := 42) dX10_echo_30 (by decide) (fun _ => ?_) (fun _ => ?_)
  · refine sn_aload_n (y := m_X10_echo) (pc := 42) dX10_echo_42 rfl ?_
    refine sn_iconst (y := m_X10_echo) (pc := 43) dX10_echo_43 kc_iconst_2 ?_
    refine sn_sipush (y := m_X10_echo) (pc := 44) dX10_echo_44 kc_sipush_m1000 ?_
    refine sn_invV (y := m_X10_echo) (pc := 47) ca_8 (av := [vI (2 : Int32), vI (-1000 : Int32)]) (o := p0) (st := []) dX10_echo_47 lk_X10_85 im_X10_refused se_X10_refused rfl rfl rfl rfl ⟨by decide, by decide⟩ (c_X10_refused cx.1 p0 (2 : Int32) (-1000 : Int32)) (fun r4 => ?_)
    exact sn_ireturn rfl dX10_echo_50
  refine sn_aload (y := m_X10_echo) (pc := 33) dX10_echo_33 rfl ?_
  refine sn_iload_n (y := m_X10_echo) (pc := 35) dX10_echo_35 rfl ?_
  refine sn_invV (y := m_X10_echo) (pc := 36) ca_2 (av := [vI p3]) (o := r2) (st := []) dX10_echo_36 lk_X10_138 im_X2_hasNumber se_X2_hasNumber rfl rfl rfl rfl ⟨by decide, by decide⟩ (c_X2_hasNumber cx.1 r2 p3) (fun r5 => ?_)
  refine sn_if_ne (y := m_X10_echo) (pc := 39) (tgt := 51) dX10_echo_39 (by decide) (fun _ => ?_) (fun _ => ?_)
  · refine sn_aload_n (y := m_X10_echo) (pc := 51) dX10_echo_51 rfl ?_
    refine sn_getA (y := m_X10_echo) (pc := 52) ca_8 rfl fk_X10_33 (fun _ _ _ => rfl) dX10_echo_52 (fun r6 => ?_)
    refine sn_aload (y := m_X10_echo) (pc := 55) dX10_echo_55 rfl ?_
    refine sn_invV (y := m_X10_echo) (pc := 57) ca_6 (av := [vA r2]) (o := r6) (st := []) dX10_echo_57 lk_X10_237 im_X7_become se_X7_become rfl rfl rfl rfl ⟨by decide, by decide⟩ (c_X7_become cx.1 r6 r2) (fun _ => ?_)
    refine sn_aload_n (y := m_X10_echo) (pc := 60) dX10_echo_60 rfl ?_
    refine sn_aload_n (y := m_X10_echo) (pc := 61) dX10_echo_61 rfl ?_
    refine sn_getA (y := m_X10_echo) (pc := 62) ca_8 rfl fk_X10_33 (fun _ _ _ => rfl) dX10_echo_62 (fun r7 => ?_)
    refine sn_iload_n (y := m_X10_echo) (pc := 65) dX10_echo_65 rfl ?_
    refine sn_iload_n (y := m_X10_echo) (pc := 66) dX10_echo_66 rfl ?_
    refine sn_invV (y := m_X10_echo) (pc := 67) ca_6 (av := [vI p2, vI p3]) (o := r7) (st := [vA p0]) dX10_echo_67 lk_X10_241 im_X7_echoAt se_X7_echoAt rfl rfl rfl rfl ⟨by decide, by decide⟩ (c_X7_echoAt cx.1 r7 p2 p3) (fun r8 => ?_)
    refine sn_invV (y := m_X10_echo) (pc := 70) ca_8 (av := [vI r8]) (o := p0) (st := []) dX10_echo_70 lk_X10_108 im_X10_answered se_X10_answered rfl rfl rfl rfl ⟨by decide, by decide⟩ (c_X10_answered cx.1 p0 r8) (fun r9 => ?_)
    exact sn_ireturn rfl dX10_echo_73
  refine sn_aload_n (y := m_X10_echo) (pc := 42) dX10_echo_42 rfl ?_
  refine sn_iconst (y := m_X10_echo) (pc := 43) dX10_echo_43 kc_iconst_2 ?_
  refine sn_sipush (y := m_X10_echo) (pc := 44) dX10_echo_44 kc_sipush_m1000 ?_
  refine sn_invV (y := m_X10_echo) (pc := 47) ca_8 (av := [vI (2 : Int32), vI (-1000 : Int32)]) (o := p0) (st := []) dX10_echo_47 lk_X10_85 im_X10_refused se_X10_refused rfl rfl rfl rfl ⟨by decide, by decide⟩ (c_X10_refused cx.1 p0 (2 : Int32) (-1000 : Int32)) (fun r10 => ?_)
  exact sn_ireturn rfl dX10_echo_50
set_option maxRecDepth 100000 in
theorem c_X10_echo (g : Gl) (p0 : (Option Nat)) (p1 : Int32) (p2 : Int32) (p3 : Int32) : Cn g m_X10_echo eI [vA p0, vI p1, vI p2, vI p3] (mCk 8 p0 (f_X10_echo p0 p1 p2 p3)) := cn_of_sn (by decide +kernel) rfl (fun r => ⟨r, rfl⟩) rfl (fun _ _ => sn_ck (s_X10_echo p0 p1 p2 p3))
/-! X10_noise -/
def f_X10_noise (p0 : (Option Nat)) (p1 : Int32) (p2 : Int32) : Mo Int64 :=
  mBd (mGetA 8 8 p0) (fun r1 => mBd (mCk 0 r1 (f_X0_fieldAt r1 p1)) (fun r2 => (if r2 = none then mBd (mCk 8 p0 (f_X10_refused p0 (1 : Int32) (-1 : Int32))) (fun r8 => mRt (r8.toInt64)) else mBd (mCk 2 r2 (f_X2_hasNumber r2 p2)) (fun r3 => (if ¬ r3 = 0 then mBd (mPutI 8 11 p0 (0 : Int32)) (fun _ => mBd (mGetA 8 3 p0) (fun r4 => mBd (mCk 6 r4 (f_X7_become r4 r2)) (fun _ => mBd (mGetA 8 3 p0) (fun r5 => mBd (mCk 6 r5 (f_X7_noiseAt r5 p2)) (fun r6 => mRt r6))))) else mBd (mCk 8 p0 (f_X10_refused p0 (2 : Int32) (-1 : Int32))) (fun r7 => mRt (r7.toInt64)))))))
set_option maxRecDepth 100000 in
theorem s_X10_noise {cx : CX} (p0 : (Option Nat)) (p1 : Int32) (p2 : Int32) : Sn cx m_X10_noise eJ 0 [(0, vA p0), (1, vI p1), (2, vI p2)] [] (f_X10_noise p0 p1 p2) := by
  refine sn_aload_n (y := m_X10_noise) (pc := 0) dX10_noise_0 rfl ?_
  refine sn_getA (y := m_X10_noise) (pc := 1) ca_8 rfl fk_X10_53 (fun _ _ _ => rfl) dX10_noise_1 (fun r1 => ?_)
  refine sn_iload_n (y := m_X10_noise) (pc := 4) dX10_noise_4 rfl ?_
  refine sn_invV (y := m_X10_noise) (pc := 5) ca_0 (av := [vI p1]) (o := r1) (st := []) dX10_noise_5 lk_X10_111 im_X0_fieldAt se_X0_fieldAt rfl rfl rfl rfl ⟨by decide, by decide⟩ (c_X0_fieldAt cx.1 r1 p1) (fun r2 => ?_)
  refine sn_astore_n (y := m_X10_noise) (pc := 8) dX10_noise_8 rfl ?_
  refine sn_aload_n (y := m_X10_noise) (pc := 9) dX10_noise_9 rfl ?_
  refine sn_ifnonnull (y := m_X10_noise) (pc := 10) (tgt := 21) dX10_noise_10 (by decide) ?_ ?_
  · refine sn_aload_n (y := m_X10_noise) (pc := 13) dX10_noise_13 rfl ?_
    refine sn_iconst (y := m_X10_noise) (pc := 14) dX10_noise_14 kc_iconst_1 ?_
    refine sn_iconst (y := m_X10_noise) (pc := 15) dX10_noise_15 kc_iconst_m1 ?_
    refine sn_invV (y := m_X10_noise) (pc := 16) ca_8 (av := [vI (1 : Int32), vI (-1 : Int32)]) (o := p0) (st := []) dX10_noise_16 lk_X10_85 im_X10_refused se_X10_refused rfl rfl rfl rfl ⟨by decide, by decide⟩ (c_X10_refused cx.1 p0 (1 : Int32) (-1 : Int32)) (fun r8 => ?_)
    refine sn_i2l (y := m_X10_noise) (pc := 19) dX10_noise_19 ?_
    exact sn_lreturn rfl dX10_noise_20
  refine sn_aload_n (y := m_X10_noise) (pc := 21) dX10_noise_21 rfl ?_
  refine sn_iload_n (y := m_X10_noise) (pc := 22) dX10_noise_22 rfl ?_
  refine sn_invV (y := m_X10_noise) (pc := 23) ca_2 (av := [vI p2]) (o := r2) (st := []) dX10_noise_23 lk_X10_138 im_X2_hasNumber se_X2_hasNumber rfl rfl rfl rfl ⟨by decide, by decide⟩ (c_X2_hasNumber cx.1 r2 p2) (fun r3 => ?_)
  refine sn_if_ne (y := m_X10_noise) (pc := 26) (tgt := 37) dX10_noise_26 (by decide) (fun _ => ?_) (fun _ => ?_)
  · refine sn_aload_n (y := m_X10_noise) (pc := 37) dX10_noise_37 rfl ?_
    refine sn_iconst (y := m_X10_noise) (pc := 38) dX10_noise_38 kc_iconst_0 ?_
    refine sn_putI (y := m_X10_noise) (pc := 39) ca_8 rfl fk_X10_64 (Or.inl rfl) rfl dX10_noise_39 ?_
    refine sn_aload_n (y := m_X10_noise) (pc := 42) dX10_noise_42 rfl ?_
    refine sn_getA (y := m_X10_noise) (pc := 43) ca_8 rfl fk_X10_33 (fun _ _ _ => rfl) dX10_noise_43 (fun r4 => ?_)
    refine sn_aload_n (y := m_X10_noise) (pc := 46) dX10_noise_46 rfl ?_
    refine sn_invV (y := m_X10_noise) (pc := 47) ca_6 (av := [vA r2]) (o := r4) (st := []) dX10_noise_47 lk_X10_237 im_X7_become se_X7_become rfl rfl rfl rfl ⟨by decide, by decide⟩ (c_X7_become cx.1 r4 r2) (fun _ => ?_)
    refine sn_aload_n (y := m_X10_noise) (pc := 50) dX10_noise_50 rfl ?_
    refine sn_getA (y := m_X10_noise) (pc := 51) ca_8 rfl fk_X10_33 (fun _ _ _ => rfl) dX10_noise_51 (fun r5 => ?_)
    refine sn_iload_n (y := m_X10_noise) (pc := 54) dX10_noise_54 rfl ?_
    refine sn_invV (y := m_X10_noise) (pc := 55) ca_6 (av := [vI p2]) (o := r5) (st := []) dX10_noise_55 lk_X10_244 im_X7_noiseAt se_X7_noiseAt rfl rfl rfl rfl ⟨by decide, by decide⟩ (c_X7_noiseAt cx.1 r5 p2) (fun r6 => ?_)
    exact sn_lreturn rfl dX10_noise_58
  refine sn_aload_n (y := m_X10_noise) (pc := 29) dX10_noise_29 rfl ?_
  refine sn_iconst (y := m_X10_noise) (pc := 30) dX10_noise_30 kc_iconst_2 ?_
  refine sn_iconst (y := m_X10_noise) (pc := 31) dX10_noise_31 kc_iconst_m1 ?_
  refine sn_invV (y := m_X10_noise) (pc := 32) ca_8 (av := [vI (2 : Int32), vI (-1 : Int32)]) (o := p0) (st := []) dX10_noise_32 lk_X10_85 im_X10_refused se_X10_refused rfl rfl rfl rfl ⟨by decide, by decide⟩ (c_X10_refused cx.1 p0 (2 : Int32) (-1 : Int32)) (fun r7 => ?_)
  refine sn_i2l (y := m_X10_noise) (pc := 35) dX10_noise_35 ?_
  exact sn_lreturn rfl dX10_noise_36
set_option maxRecDepth 100000 in
theorem c_X10_noise (g : Gl) (p0 : (Option Nat)) (p1 : Int32) (p2 : Int32) : Cn g m_X10_noise eJ [vA p0, vI p1, vI p2] (mCk 8 p0 (f_X10_noise p0 p1 p2)) := cn_of_sn (by decide +kernel) rfl (fun r => ⟨r, rfl⟩) rfl (fun _ _ => sn_ck (s_X10_noise p0 p1 p2))
/-! X10_lowest -/
def f_X10_lowest (p0 : (Option Nat)) (p1 : Int32) : Mo Int32 :=
  mBd (mGetA 8 8 p0) (fun r1 => mBd (mCk 0 r1 (f_X0_fieldAt r1 p1)) (fun r2 => (if r2 = none then mBd (mCk 8 p0 (f_X10_refused p0 (1 : Int32) (-1 : Int32))) (fun r7 => mRt r7) else mBd (mGetA 8 3 p0) (fun r3 => mBd (mCk 6 r3 (f_X7_become r3 r2)) (fun _ => mBd (mGetA 8 3 p0) (fun r4 => mBd (mCk 6 r4 (f_X7_leastNoisy r4)) (fun r5 => mBd (mCk 8 p0 (f_X10_answered p0 r5)) (fun r6 => mRt r6))))))))
set_option maxRecDepth 100000 in
theorem s_X10_lowest {cx : CX} (p0 : (Option Nat)) (p1 : Int32) : Sn cx m_X10_lowest eI 0 [(0, vA p0), (1, vI p1)] [] (f_X10_lowest p0 p1) := by
  refine sn_aload_n (y := m_X10_lowest) (pc := 0) dX10_lowest_0 rfl ?_
  refine sn_getA (y := m_X10_lowest) (pc := 1) ca_8 rfl fk_X10_53 (fun _ _ _ => rfl) dX10_lowest_1 (fun r1 => ?_)
  refine sn_iload_n (y := m_X10_lowest) (pc := 4) dX10_lowest_4 rfl ?_
  refine sn_invV (y := m_X10_lowest) (pc := 5) ca_0 (av := [vI p1]) (o := r1) (st := []) dX10_lowest_5 lk_X10_111 im_X0_fieldAt se_X0_fieldAt rfl rfl rfl rfl ⟨by decide, by decide⟩ (c_X0_fieldAt cx.1 r1 p1) (fun r2 => ?_)
  refine sn_astore_n (y := m_X10_lowest) (pc := 8) dX10_lowest_8 rfl ?_
  refine sn_aload_n (y := m_X10_lowest) (pc := 9) dX10_lowest_9 rfl ?_
  refine sn_ifnonnull (y := m_X10_lowest) (pc := 10) (tgt := 20) dX10_lowest_10 (by decide) ?_ ?_
  · refine sn_aload_n (y := m_X10_lowest) (pc := 13) dX10_lowest_13 rfl ?_
    refine sn_iconst (y := m_X10_lowest) (pc := 14) dX10_lowest_14 kc_iconst_1 ?_
    refine sn_iconst (y := m_X10_lowest) (pc := 15) dX10_lowest_15 kc_iconst_m1 ?_
    refine sn_invV (y := m_X10_lowest) (pc := 16) ca_8 (av := [vI (1 : Int32), vI (-1 : Int32)]) (o := p0) (st := []) dX10_lowest_16 lk_X10_85 im_X10_refused se_X10_refused rfl rfl rfl rfl ⟨by decide, by decide⟩ (c_X10_refused cx.1 p0 (1 : Int32) (-1 : Int32)) (fun r7 => ?_)
    exact sn_ireturn rfl dX10_lowest_19
  refine sn_aload_n (y := m_X10_lowest) (pc := 20) dX10_lowest_20 rfl ?_
  refine sn_getA (y := m_X10_lowest) (pc := 21) ca_8 rfl fk_X10_33 (fun _ _ _ => rfl) dX10_lowest_21 (fun r3 => ?_)
  refine sn_aload_n (y := m_X10_lowest) (pc := 24) dX10_lowest_24 rfl ?_
  refine sn_invV (y := m_X10_lowest) (pc := 25) ca_6 (av := [vA r2]) (o := r3) (st := []) dX10_lowest_25 lk_X10_237 im_X7_become se_X7_become rfl rfl rfl rfl ⟨by decide, by decide⟩ (c_X7_become cx.1 r3 r2) (fun _ => ?_)
  refine sn_aload_n (y := m_X10_lowest) (pc := 28) dX10_lowest_28 rfl ?_
  refine sn_aload_n (y := m_X10_lowest) (pc := 29) dX10_lowest_29 rfl ?_
  refine sn_getA (y := m_X10_lowest) (pc := 30) ca_8 rfl fk_X10_33 (fun _ _ _ => rfl) dX10_lowest_30 (fun r4 => ?_)
  refine sn_invV (y := m_X10_lowest) (pc := 33) ca_6 (av := []) (o := r4) (st := [vA p0]) dX10_lowest_33 lk_X10_248 im_X7_leastNoisy se_X7_leastNoisy rfl rfl rfl rfl ⟨by decide, by decide⟩ (c_X7_leastNoisy cx.1 r4) (fun r5 => ?_)
  refine sn_invV (y := m_X10_lowest) (pc := 36) ca_8 (av := [vI r5]) (o := p0) (st := []) dX10_lowest_36 lk_X10_108 im_X10_answered se_X10_answered rfl rfl rfl rfl ⟨by decide, by decide⟩ (c_X10_answered cx.1 p0 r5) (fun r6 => ?_)
  exact sn_ireturn rfl dX10_lowest_39
set_option maxRecDepth 100000 in
theorem c_X10_lowest (g : Gl) (p0 : (Option Nat)) (p1 : Int32) : Cn g m_X10_lowest eI [vA p0, vI p1] (mCk 8 p0 (f_X10_lowest p0 p1)) := cn_of_sn (by decide +kernel) rfl (fun r => ⟨r, rfl⟩) rfl (fun _ _ => sn_ck (s_X10_lowest p0 p1))
/-! X10_denied -/
def f_X10_denied (p0 : (Option Nat)) (p1 : Int32) : Mo Int32 :=
  mBd (mPutI 8 11 p0 p1) (fun _ => mRt (0 : Int32))
set_option maxRecDepth 100000 in
theorem s_X10_denied {cx : CX} (p0 : (Option Nat)) (p1 : Int32) : Sn cx m_X10_denied eI 0 [(0, vA p0), (1, vI p1)] [] (f_X10_denied p0 p1) := by
  refine sn_aload_n (y := m_X10_denied) (pc := 0) dX10_denied_0 rfl ?_
  refine sn_iload_n (y := m_X10_denied) (pc := 1) dX10_denied_1 rfl ?_
  refine sn_putI (y := m_X10_denied) (pc := 2) ca_8 rfl fk_X10_64 (Or.inl rfl) rfl dX10_denied_2 ?_
  refine sn_iconst (y := m_X10_denied) (pc := 5) dX10_denied_5 kc_iconst_0 ?_
  exact sn_zreturnC (by decide) rfl dX10_denied_6
set_option maxRecDepth 100000 in
theorem c_X10_denied (g : Gl) (p0 : (Option Nat)) (p1 : Int32) : Cn g m_X10_denied eI [vA p0, vI p1] (mCk 8 p0 (f_X10_denied p0 p1)) := cn_of_sn (by decide +kernel) rfl (fun r => ⟨r, rfl⟩) rfl (fun _ _ => sn_ck (s_X10_denied p0 p1))
/-! X10_granted -/
def f_X10_granted (p0 : (Option Nat)) : Mo Int32 :=
  mBd (mPutI 8 11 p0 (0 : Int32)) (fun _ => mRt (1 : Int32))
set_option maxRecDepth 100000 in
theorem s_X10_granted {cx : CX} (p0 : (Option Nat)) : Sn cx m_X10_granted eI 0 [(0, vA p0)] [] (f_X10_granted p0) := by
  refine sn_aload_n (y := m_X10_granted) (pc := 0) dX10_granted_0 rfl ?_
  refine sn_iconst (y := m_X10_granted) (pc := 1) dX10_granted_1 kc_iconst_0 ?_
  refine sn_putI (y := m_X10_granted) (pc := 2) ca_8 rfl fk_X10_64 (Or.inl rfl) rfl dX10_granted_2 ?_
  refine sn_iconst (y := m_X10_granted) (pc := 5) dX10_granted_5 kc_iconst_1 ?_
  exact sn_zreturnC (by decide) rfl dX10_granted_6
set_option maxRecDepth 100000 in
theorem c_X10_granted (g : Gl) (p0 : (Option Nat)) : Cn g m_X10_granted eI [vA p0] (mCk 8 p0 (f_X10_granted p0)) := cn_of_sn (by decide +kernel) rfl (fun r => ⟨r, rfl⟩) rfl (fun _ _ => sn_ck (s_X10_granted p0))
/-! X10_choose -/
def f_X10_choose (p0 : (Option Nat)) (p1 : Int32) : Mo Int32 :=
  mBd (mGetA 8 8 p0) (fun r1 => mBd (mCk 0 r1 (f_X0_fieldAt r1 p1)) (fun r2 => (if r2 = none then mBd (mCk 8 p0 (f_X10_denied p0 (1 : Int32))) (fun r6 => mRq (r6 = 0 ∨ r6 = 1) (mRt r6)) else mBd (mGetA 8 2 p0) (fun r3 => mBd (mCk 4 r3 (f_X4_beginAct r3)) (fun _ => mBd (mGetA 8 2 p0) (fun r4 => mBd (mCk 4 r4 (f_X4_clearTo r4 p1)) (fun _ => mBd (mCk 8 p0 (f_X10_granted p0)) (fun r5 => mRq (r5 = 0 ∨ r5 = 1) (mRt r5)))))))))
set_option maxRecDepth 100000 in
theorem s_X10_choose {cx : CX} (p0 : (Option Nat)) (p1 : Int32) : Sn cx m_X10_choose eI 0 [(0, vA p0), (1, vI p1)] [] (f_X10_choose p0 p1) := by
  refine sn_aload_n (y := m_X10_choose) (pc := 0) dX10_choose_0 rfl ?_
  refine sn_getA (y := m_X10_choose) (pc := 1) ca_8 rfl fk_X10_53 (fun _ _ _ => rfl) dX10_choose_1 (fun r1 => ?_)
  refine sn_iload_n (y := m_X10_choose) (pc := 4) dX10_choose_4 rfl ?_
  refine sn_invV (y := m_X10_choose) (pc := 5) ca_0 (av := [vI p1]) (o := r1) (st := []) dX10_choose_5 lk_X10_111 im_X0_fieldAt se_X0_fieldAt rfl rfl rfl rfl ⟨by decide, by decide⟩ (c_X0_fieldAt cx.1 r1 p1) (fun r2 => ?_)
  refine sn_ifnonnull (y := m_X10_choose) (pc := 8) (tgt := 17) dX10_choose_8 (by decide) ?_ ?_
  · refine sn_aload_n (y := m_X10_choose) (pc := 11) dX10_choose_11 rfl ?_
    refine sn_iconst (y := m_X10_choose) (pc := 12) dX10_choose_12 kc_iconst_1 ?_
    refine sn_invV (y := m_X10_choose) (pc := 13) ca_8 (av := [vI (1 : Int32)]) (o := p0) (st := []) dX10_choose_13 lk_X10_251 im_X10_denied se_X10_denied rfl rfl rfl rfl ⟨by decide, by decide⟩ (c_X10_denied cx.1 p0 (1 : Int32)) (fun r6 => ?_)
    exact sn_zreturn rfl dX10_choose_16
  refine sn_aload_n (y := m_X10_choose) (pc := 17) dX10_choose_17 rfl ?_
  refine sn_getA (y := m_X10_choose) (pc := 18) ca_8 rfl fk_X10_26 (fun _ _ _ => rfl) dX10_choose_18 (fun r3 => ?_)
  refine sn_invV (y := m_X10_choose) (pc := 21) ca_4 (av := []) (o := r3) (st := []) dX10_choose_21 lk_X10_254 im_X4_beginAct se_X4_beginAct rfl rfl rfl rfl ⟨by decide, by decide⟩ (c_X4_beginAct cx.1 r3) (fun _ => ?_)
  refine sn_aload_n (y := m_X10_choose) (pc := 24) dX10_choose_24 rfl ?_
  refine sn_getA (y := m_X10_choose) (pc := 25) ca_8 rfl fk_X10_26 (fun _ _ _ => rfl) dX10_choose_25 (fun r4 => ?_)
  refine sn_iload_n (y := m_X10_choose) (pc := 28) dX10_choose_28 rfl ?_
  refine sn_invV (y := m_X10_choose) (pc := 29) ca_4 (av := [vI p1]) (o := r4) (st := []) dX10_choose_29 lk_X10_257 im_X4_clearTo se_X4_clearTo rfl rfl rfl rfl ⟨by decide, by decide⟩ (c_X4_clearTo cx.1 r4 p1) (fun _ => ?_)
  refine sn_aload_n (y := m_X10_choose) (pc := 32) dX10_choose_32 rfl ?_
  refine sn_invV (y := m_X10_choose) (pc := 33) ca_8 (av := []) (o := p0) (st := []) dX10_choose_33 lk_X10_260 im_X10_granted se_X10_granted rfl rfl rfl rfl ⟨by decide, by decide⟩ (c_X10_granted cx.1 p0) (fun r5 => ?_)
  exact sn_zreturn rfl dX10_choose_36
set_option maxRecDepth 100000 in
theorem c_X10_choose (g : Gl) (p0 : (Option Nat)) (p1 : Int32) : Cn g m_X10_choose eI [vA p0, vI p1] (mCk 8 p0 (f_X10_choose p0 p1)) := cn_of_sn (by decide +kernel) rfl (fun r => ⟨r, rfl⟩) rfl (fun _ _ => sn_ck (s_X10_choose p0 p1))
/-! X10_fieldOfRegister -/
def f_X10_fieldOfRegister (p0 : (Option Nat)) (p1 : Int32) : Mo (Option Nat) :=
  mBd (mGetA 8 2 p0) (fun r1 => mBd (mCk 4 r1 (f_X4_has r1 p1)) (fun r2 => (if r2 = 0 then mRt none else mBd (mGetA 8 8 p0) (fun r3 => mBd (mGetA 8 2 p0) (fun r4 => mBd (mCk 4 r4 (f_X4_fieldNow r4)) (fun r5 => mBd (mCk 0 r3 (f_X0_fieldAt r3 r5)) (fun r6 => mRt r6)))))))
set_option maxRecDepth 100000 in
theorem s_X10_fieldOfRegister {cx : CX} (p0 : (Option Nat)) (p1 : Int32) : Sn cx m_X10_fieldOfRegister eA 0 [(0, vA p0), (1, vI p1)] [] (f_X10_fieldOfRegister p0 p1) := by
  refine sn_aload_n (y := m_X10_fieldOfRegister) (pc := 0) dX10_fieldOfRegister_0 rfl ?_
  refine sn_getA (y := m_X10_fieldOfRegister) (pc := 1) ca_8 rfl fk_X10_26 (fun _ _ _ => rfl) dX10_fieldOfRegister_1 (fun r1 => ?_)
  refine sn_iload_n (y := m_X10_fieldOfRegister) (pc := 4) dX10_fieldOfRegister_4 rfl ?_
  refine sn_invV (y := m_X10_fieldOfRegister) (pc := 5) ca_4 (av := [vI p1]) (o := r1) (st := []) dX10_fieldOfRegister_5 lk_X10_325 im_X4_has se_X4_has rfl rfl rfl rfl ⟨by decide, by decide⟩ (c_X4_has cx.1 r1 p1) (fun r2 => ?_)
  refine sn_if_eq (y := m_X10_fieldOfRegister) (pc := 8) (tgt := 28) dX10_fieldOfRegister_8 (by decide) (fun _ => ?_) (fun _ => ?_)
  · refine sn_anull (y := m_X10_fieldOfRegister) (pc := 28) dX10_fieldOfRegister_28 ?_
    exact sn_areturn (Or.inl ⟨_, rfl⟩) dX10_fieldOfRegister_29
  refine sn_aload_n (y := m_X10_fieldOfRegister) (pc := 11) dX10_fieldOfRegister_11 rfl ?_
  refine sn_getA (y := m_X10_fieldOfRegister) (pc := 12) ca_8 rfl fk_X10_53 (fun _ _ _ => rfl) dX10_fieldOfRegister_12 (fun r3 => ?_)
  refine sn_aload_n (y := m_X10_fieldOfRegister) (pc := 15) dX10_fieldOfRegister_15 rfl ?_
  refine sn_getA (y := m_X10_fieldOfRegister) (pc := 16) ca_8 rfl fk_X10_26 (fun _ _ _ => rfl) dX10_fieldOfRegister_16 (fun r4 => ?_)
  refine sn_invV (y := m_X10_fieldOfRegister) (pc := 19) ca_4 (av := []) (o := r4) (st := [vA r3]) dX10_fieldOfRegister_19 lk_X10_271 im_X4_fieldNow se_X4_fieldNow rfl rfl rfl rfl ⟨by decide, by decide⟩ (c_X4_fieldNow cx.1 r4) (fun r5 => ?_)
  refine sn_invV (y := m_X10_fieldOfRegister) (pc := 22) ca_0 (av := [vI r5]) (o := r3) (st := []) dX10_fieldOfRegister_22 lk_X10_111 im_X0_fieldAt se_X0_fieldAt rfl rfl rfl rfl ⟨by decide, by decide⟩ (c_X0_fieldAt cx.1 r3 r5) (fun r6 => ?_)
  refine sn_goto (y := m_X10_fieldOfRegister) (pc := 25) (tgt := 29) dX10_fieldOfRegister_25 (by decide) ?_
  exact sn_areturn (Or.inl ⟨_, rfl⟩) dX10_fieldOfRegister_29
set_option maxRecDepth 100000 in
theorem c_X10_fieldOfRegister (g : Gl) (p0 : (Option Nat)) (p1 : Int32) : Cn g m_X10_fieldOfRegister eA [vA p0, vI p1] (mCk 8 p0 (f_X10_fieldOfRegister p0 p1)) := cn_of_sn (by decide +kernel) rfl (fun r => ⟨r, rfl⟩) rfl (fun _ _ => sn_ck (s_X10_fieldOfRegister p0 p1))
/-! X10_register -/
def f_X10_register (p0 : (Option Nat)) (p1 : Int32) (p2 : Int32) : Mo Int32 :=
  mBd (mCk 8 p0 (f_X10_fieldOfRegister p0 p1)) (fun r1 => (if r1 = none then mBd (mCk 8 p0 (f_X10_refused p0 (1 : Int32) (-1000000000 : Int32))) (fun r2 => mRt r2) else (if p2 < 0 then mBd (mCk 8 p0 (f_X10_refused p0 (1 : Int32) (-1000000000 : Int32))) (fun r3 => mRt r3) else mBd (mCk 2 r1 (f_X2_rowLength r1)) (fun r4 => (if p2 < r4 then mBd (mGetA 8 2 p0) (fun r5 => mBd (mGetA 8 4 p0) (fun r6 => mBd (mCk 4 r5 (f_X4_copyOut r5 p1 r6)) (fun _ => mBd (mGetA 8 4 p0) (fun r7 => mBd (f_X6_at r7 p2) (fun r8 => mBd (mCk 8 p0 (f_X10_answered p0 (r8.toInt32))) (fun r9 => mRt r9)))))) else mBd (mCk 8 p0 (f_X10_refused p0 (1 : Int32) (-1000000000 : Int32))) (fun r10 => mRt r10))))))
set_option maxRecDepth 100000 in
theorem s_X10_register {cx : CX} (p0 : (Option Nat)) (p1 : Int32) (p2 : Int32) : Sn cx m_X10_register eI 0 [(0, vA p0), (1, vI p1), (2, vI p2)] [] (f_X10_register p0 p1 p2) := by
  refine sn_aload_n (y := m_X10_register) (pc := 0) dX10_register_0 rfl ?_
  refine sn_iload_n (y := m_X10_register) (pc := 1) dX10_register_1 rfl ?_
  refine sn_invV (y := m_X10_register) (pc := 2) ca_8 (av := [vI p1]) (o := p0) (st := []) dX10_register_2 lk_X10_264 im_X10_fieldOfRegister se_X10_fieldOfRegister rfl rfl rfl rfl ⟨by decide, by decide⟩ (c_X10_fieldOfRegister cx.1 p0 p1) (fun r1 => ?_)
  refine sn_astore_n (y := m_X10_register) (pc := 5) dX10_register_5 rfl ?_
  refine sn_aload_n (y := m_X10_register) (pc := 6) dX10_register_6 rfl ?_
  refine sn_ifnull (y := m_X10_register) (pc := 7) (tgt := 22) dX10_register_7 (by decide) ?_ ?_
  · refine sn_aload_n (y := m_X10_register) (pc := 22) dX10_register_22 rfl ?_
    refine sn_iconst (y := m_X10_register) (pc := 23) dX10_register_23 kc_iconst_1 ?_
    refine sn_ldcI (y := m_X10_register) (pc := 24) ki_X10_188 dX10_register_24 ?_
    refine sn_invV (y := m_X10_register) (pc := 26) ca_8 (av := [vI (1 : Int32), vI (-1000000000 : Int32)]) (o := p0) (st := []) dX10_register_26 lk_X10_85 im_X10_refused se_X10_refused rfl rfl rfl rfl ⟨by decide, by decide⟩ (c_X10_refused cx.1 p0 (1 : Int32) (-1000000000 : Int32)) (fun r2 => ?_)
    exact sn_ireturn rfl dX10_register_29
  refine sn_iload_n (y := m_X10_register) (pc := 10) dX10_register_10 rfl ?_
  refine sn_if_lt (y := m_X10_register) (pc := 11) (tgt := 22) dX10_register_11 (by decide) (fun _ => ?_) (fun _ => ?_)
  · refine sn_aload_n (y := m_X10_register) (pc := 22) dX10_register_22 rfl ?_
    refine sn_iconst (y := m_X10_register) (pc := 23) dX10_register_23 kc_iconst_1 ?_
    refine sn_ldcI (y := m_X10_register) (pc := 24) ki_X10_188 dX10_register_24 ?_
    refine sn_invV (y := m_X10_register) (pc := 26) ca_8 (av := [vI (1 : Int32), vI (-1000000000 : Int32)]) (o := p0) (st := []) dX10_register_26 lk_X10_85 im_X10_refused se_X10_refused rfl rfl rfl rfl ⟨by decide, by decide⟩ (c_X10_refused cx.1 p0 (1 : Int32) (-1000000000 : Int32)) (fun r3 => ?_)
    exact sn_ireturn rfl dX10_register_29
  refine sn_iload_n (y := m_X10_register) (pc := 14) dX10_register_14 rfl ?_
  refine sn_aload_n (y := m_X10_register) (pc := 15) dX10_register_15 rfl ?_
  refine sn_invV (y := m_X10_register) (pc := 16) ca_2 (av := []) (o := r1) (st := [vI p2]) dX10_register_16 lk_X10_126 im_X2_rowLength se_X2_rowLength rfl rfl rfl rfl ⟨by decide, by decide⟩ (c_X2_rowLength cx.1 r1) (fun r4 => ?_)
  refine sn_icmp_lt (y := m_X10_register) (pc := 19) (tgt := 30) dX10_register_19 (by decide) (fun _ => ?_) (fun _ => ?_)
  · refine sn_aload_n (y := m_X10_register) (pc := 30) dX10_register_30 rfl ?_
    refine sn_getA (y := m_X10_register) (pc := 31) ca_8 rfl fk_X10_26 (fun _ _ _ => rfl) dX10_register_31 (fun r5 => ?_)
    refine sn_iload_n (y := m_X10_register) (pc := 34) dX10_register_34 rfl ?_
    refine sn_aload_n (y := m_X10_register) (pc := 35) dX10_register_35 rfl ?_
    refine sn_getA (y := m_X10_register) (pc := 36) ca_8 rfl fk_X10_37 (fun _ _ _ => rfl) dX10_register_36 (fun r6 => ?_)
    refine sn_invV (y := m_X10_register) (pc := 39) ca_4 (av := [vI p1, vA r6]) (o := r5) (st := []) dX10_register_39 lk_X10_267 im_X4_copyOut se_X4_copyOut rfl rfl rfl rfl ⟨by decide, by decide⟩ (c_X4_copyOut cx.1 r5 p1 r6) (fun _ => ?_)
    refine sn_aload_n (y := m_X10_register) (pc := 42) dX10_register_42 rfl ?_
    refine sn_aload_n (y := m_X10_register) (pc := 43) dX10_register_43 rfl ?_
    refine sn_getA (y := m_X10_register) (pc := 44) ca_8 rfl fk_X10_37 (fun _ _ _ => rfl) dX10_register_44 (fun r7 => ?_)
    refine sn_iload_n (y := m_X10_register) (pc := 47) dX10_register_47 rfl ?_
    refine sn_invS (y := m_X10_register) (pc := 48) (av := [vA r7, vI p2]) (st := [vA p0]) dX10_register_48 lk_X10_152 sw_X6_at rfl rfl rfl ⟨by decide, by decide⟩ (c_X6_at cx.1 r7 p2) (fun r8 => ?_)
    refine sn_l2i (y := m_X10_register) (pc := 51) dX10_register_51 ?_
    refine sn_invV (y := m_X10_register) (pc := 52) ca_8 (av := [vI (r8.toInt32)]) (o := p0) (st := []) dX10_register_52 lk_X10_108 im_X10_answered se_X10_answered rfl rfl rfl rfl ⟨by decide, by decide⟩ (c_X10_answered cx.1 p0 (r8.toInt32)) (fun r9 => ?_)
    exact sn_ireturn rfl dX10_register_55
  refine sn_aload_n (y := m_X10_register) (pc := 22) dX10_register_22 rfl ?_
  refine sn_iconst (y := m_X10_register) (pc := 23) dX10_register_23 kc_iconst_1 ?_
  refine sn_ldcI (y := m_X10_register) (pc := 24) ki_X10_188 dX10_register_24 ?_
  refine sn_invV (y := m_X10_register) (pc := 26) ca_8 (av := [vI (1 : Int32), vI (-1000000000 : Int32)]) (o := p0) (st := []) dX10_register_26 lk_X10_85 im_X10_refused se_X10_refused rfl rfl rfl rfl ⟨by decide, by decide⟩ (c_X10_refused cx.1 p0 (1 : Int32) (-1000000000 : Int32)) (fun r10 => ?_)
  exact sn_ireturn rfl dX10_register_29
set_option maxRecDepth 100000 in
theorem c_X10_register (g : Gl) (p0 : (Option Nat)) (p1 : Int32) (p2 : Int32) : Cn g m_X10_register eI [vA p0, vI p1, vI p2] (mCk 8 p0 (f_X10_register p0 p1 p2)) := cn_of_sn (by decide +kernel) rfl (fun r => ⟨r, rfl⟩) rfl (fun _ _ => sn_ck (s_X10_register p0 p1 p2))
/-! X10_keep -/
def f_X10_keep (p0 : (Option Nat)) (p1 : Int32) (p2 : (Option Nat)) : Mo Int32 :=
  mBd (f_X6_isHuge p2) (fun r1 => (if r1 = 0 then mBd (mGetA 8 2 p0) (fun r2 => mBd (mCk 4 r2 (f_X4_beginAct r2)) (fun _ => mBd (mGetA 8 2 p0) (fun r3 => mBd (mCk 4 r3 (f_X4_copyIn r3 p1 p2)) (fun _ => mBd (mCk 8 p0 (f_X10_granted p0)) (fun r4 => mRq (r4 = 0 ∨ r4 = 1) (mRt r4)))))) else mBd (mCk 8 p0 (f_X10_denied p0 (7 : Int32))) (fun r5 => mRq (r5 = 0 ∨ r5 = 1) (mRt r5))))
set_option maxRecDepth 100000 in
theorem s_X10_keep {cx : CX} (p0 : (Option Nat)) (p1 : Int32) (p2 : (Option Nat)) : Sn cx m_X10_keep eI 0 [(0, vA p0), (1, vI p1), (2, vA p2)] [] (f_X10_keep p0 p1 p2) := by
  refine sn_aload_n (y := m_X10_keep) (pc := 0) dX10_keep_0 rfl ?_
  refine sn_invS (y := m_X10_keep) (pc := 1) (av := [vA p2]) (st := []) dX10_keep_1 lk_X10_328 sw_X6_isHuge rfl rfl rfl ⟨by decide, by decide⟩ (c_X6_isHuge cx.1 p2) (fun r1 => ?_)
  refine sn_if_eq (y := m_X10_keep) (pc := 4) (tgt := 14) dX10_keep_4 (by decide) (fun _ => ?_) (fun _ => ?_)
  · refine sn_aload_n (y := m_X10_keep) (pc := 14) dX10_keep_14 rfl ?_
    refine sn_getA (y := m_X10_keep) (pc := 15) ca_8 rfl fk_X10_26 (fun _ _ _ => rfl) dX10_keep_15 (fun r2 => ?_)
    refine sn_invV (y := m_X10_keep) (pc := 18) ca_4 (av := []) (o := r2) (st := []) dX10_keep_18 lk_X10_254 im_X4_beginAct se_X4_beginAct rfl rfl rfl rfl ⟨by decide, by decide⟩ (c_X4_beginAct cx.1 r2) (fun _ => ?_)
    refine sn_aload_n (y := m_X10_keep) (pc := 21) dX10_keep_21 rfl ?_
    refine sn_getA (y := m_X10_keep) (pc := 22) ca_8 rfl fk_X10_26 (fun _ _ _ => rfl) dX10_keep_22 (fun r3 => ?_)
    refine sn_iload_n (y := m_X10_keep) (pc := 25) dX10_keep_25 rfl ?_
    refine sn_aload_n (y := m_X10_keep) (pc := 26) dX10_keep_26 rfl ?_
    refine sn_invV (y := m_X10_keep) (pc := 27) ca_4 (av := [vI p1, vA p2]) (o := r3) (st := []) dX10_keep_27 lk_X10_331 im_X4_copyIn se_X4_copyIn rfl rfl rfl rfl ⟨by decide, by decide⟩ (c_X4_copyIn cx.1 r3 p1 p2) (fun _ => ?_)
    refine sn_aload_n (y := m_X10_keep) (pc := 30) dX10_keep_30 rfl ?_
    refine sn_invV (y := m_X10_keep) (pc := 31) ca_8 (av := []) (o := p0) (st := []) dX10_keep_31 lk_X10_260 im_X10_granted se_X10_granted rfl rfl rfl rfl ⟨by decide, by decide⟩ (c_X10_granted cx.1 p0) (fun r4 => ?_)
    exact sn_zreturn rfl dX10_keep_34
  refine sn_aload_n (y := m_X10_keep) (pc := 7) dX10_keep_7 rfl ?_
  refine sn_bipush (y := m_X10_keep) (pc := 8) dX10_keep_8 kc_bipush_7 ?_
  refine sn_invV (y := m_X10_keep) (pc := 10) ca_8 (av := [vI (7 : Int32)]) (o := p0) (st := []) dX10_keep_10 lk_X10_251 im_X10_denied se_X10_denied rfl rfl rfl rfl ⟨by decide, by decide⟩ (c_X10_denied cx.1 p0 (7 : Int32)) (fun r5 => ?_)
  exact sn_zreturn rfl dX10_keep_13
set_option maxRecDepth 100000 in
theorem c_X10_keep (g : Gl) (p0 : (Option Nat)) (p1 : Int32) (p2 : (Option Nat)) : Cn g m_X10_keep eI [vA p0, vI p1, vA p2] (mCk 8 p0 (f_X10_keep p0 p1 p2)) := cn_of_sn (by decide +kernel) rfl (fun r => ⟨r, rfl⟩) rfl (fun _ _ => sn_ck (s_X10_keep p0 p1 p2))
/-! X10_take -/
def f_X10_take (p0 : (Option Nat)) (p1 : Int32) (p2 : Int32) : Mo Int32 :=
  mBd (mGetA 8 8 p0) (fun r1 => mBd (mCk 0 r1 (f_X0_letFieldAt r1 p2)) (fun r2 => mBd (mCk 8 p0 (f_X10_fieldOfRegister p0 p1)) (fun r3 => (if r3 = none then mBd (mCk 8 p0 (f_X10_denied p0 (1 : Int32))) (fun r4 => mRq (r4 = 0 ∨ r4 = 1) (mRt r4)) else (if r2 ≥ 0 then mBd (mGetA 8 2 p0) (fun r5 => mBd (mCk 4 r5 (f_X4_fieldNow r5)) (fun r6 => (if r2 = r6 then mBd (mGetA 8 8 p0) (fun r7 => mBd (mCk 0 r7 (f_X0_letRowAt r7 p2)) (fun r8 => mBd (mCk 8 p0 (f_X10_keep p0 p1 r8)) (fun r9 => mRq (r9 = 0 ∨ r9 = 1) (mRt r9)))) else mBd (mCk 8 p0 (f_X10_denied p0 (5 : Int32))) (fun r10 => mRq (r10 = 0 ∨ r10 = 1) (mRt r10))))) else mBd (mCk 8 p0 (f_X10_denied p0 (1 : Int32))) (fun r11 => mRq (r11 = 0 ∨ r11 = 1) (mRt r11)))))))
set_option maxRecDepth 100000 in
theorem s_X10_take {cx : CX} (p0 : (Option Nat)) (p1 : Int32) (p2 : Int32) : Sn cx m_X10_take eI 0 [(0, vA p0), (1, vI p1), (2, vI p2)] [] (f_X10_take p0 p1 p2) := by
  refine sn_aload_n (y := m_X10_take) (pc := 0) dX10_take_0 rfl ?_
  refine sn_getA (y := m_X10_take) (pc := 1) ca_8 rfl fk_X10_53 (fun _ _ _ => rfl) dX10_take_1 (fun r1 => ?_)
  refine sn_iload_n (y := m_X10_take) (pc := 4) dX10_take_4 rfl ?_
  refine sn_invV (y := m_X10_take) (pc := 5) ca_0 (av := [vI p2]) (o := r1) (st := []) dX10_take_5 lk_X10_185 im_X0_letFieldAt se_X0_letFieldAt rfl rfl rfl rfl ⟨by decide, by decide⟩ (c_X0_letFieldAt cx.1 r1 p2) (fun r2 => ?_)
  refine sn_istore_n (y := m_X10_take) (pc := 8) dX10_take_8 rfl ?_
  refine sn_aload_n (y := m_X10_take) (pc := 9) dX10_take_9 rfl ?_
  refine sn_iload_n (y := m_X10_take) (pc := 10) dX10_take_10 rfl ?_
  refine sn_invV (y := m_X10_take) (pc := 11) ca_8 (av := [vI p1]) (o := p0) (st := []) dX10_take_11 lk_X10_264 im_X10_fieldOfRegister se_X10_fieldOfRegister rfl rfl rfl rfl ⟨by decide, by decide⟩ (c_X10_fieldOfRegister cx.1 p0 p1) (fun r3 => ?_)
  refine sn_ifnull (y := m_X10_take) (pc := 14) (tgt := 21) dX10_take_14 (by decide) ?_ ?_
  · refine sn_aload_n (y := m_X10_take) (pc := 21) dX10_take_21 rfl ?_
    refine sn_iconst (y := m_X10_take) (pc := 22) dX10_take_22 kc_iconst_1 ?_
    refine sn_invV (y := m_X10_take) (pc := 23) ca_8 (av := [vI (1 : Int32)]) (o := p0) (st := []) dX10_take_23 lk_X10_251 im_X10_denied se_X10_denied rfl rfl rfl rfl ⟨by decide, by decide⟩ (c_X10_denied cx.1 p0 (1 : Int32)) (fun r4 => ?_)
    exact sn_zreturn rfl dX10_take_26
  refine sn_iload_n (y := m_X10_take) (pc := 17) dX10_take_17 rfl ?_
  refine sn_if_ge (y := m_X10_take) (pc := 18) (tgt := 27) dX10_take_18 (by decide) (fun _ => ?_) (fun _ => ?_)
  · refine sn_iload_n (y := m_X10_take) (pc := 27) dX10_take_27 rfl ?_
    refine sn_aload_n (y := m_X10_take) (pc := 28) dX10_take_28 rfl ?_
    refine sn_getA (y := m_X10_take) (pc := 29) ca_8 rfl fk_X10_26 (fun _ _ _ => rfl) dX10_take_29 (fun r5 => ?_)
    refine sn_invV (y := m_X10_take) (pc := 32) ca_4 (av := []) (o := r5) (st := [vI r2]) dX10_take_32 lk_X10_271 im_X4_fieldNow se_X4_fieldNow rfl rfl rfl rfl ⟨by decide, by decide⟩ (c_X4_fieldNow cx.1 r5) (fun r6 => ?_)
    refine sn_icmp_eq (y := m_X10_take) (pc := 35) (tgt := 44) dX10_take_35 (by decide) (fun _ => ?_) (fun _ => ?_)
    · refine sn_aload_n (y := m_X10_take) (pc := 44) dX10_take_44 rfl ?_
      refine sn_iload_n (y := m_X10_take) (pc := 45) dX10_take_45 rfl ?_
      refine sn_aload_n (y := m_X10_take) (pc := 46) dX10_take_46 rfl ?_
      refine sn_getA (y := m_X10_take) (pc := 47) ca_8 rfl fk_X10_53 (fun _ _ _ => rfl) dX10_take_47 (fun r7 => ?_)
      refine sn_iload_n (y := m_X10_take) (pc := 50) dX10_take_50 rfl ?_
      refine sn_invV (y := m_X10_take) (pc := 51) ca_0 (av := [vI p2]) (o := r7) (st := [vI p1, vA p0]) dX10_take_51 lk_X10_189 im_X0_letRowAt se_X0_letRowAt rfl rfl rfl rfl ⟨by decide, by decide⟩ (c_X0_letRowAt cx.1 r7 p2) (fun r8 => ?_)
      refine sn_invV (y := m_X10_take) (pc := 54) ca_8 (av := [vI p1, vA r8]) (o := p0) (st := []) dX10_take_54 lk_X10_274 im_X10_keep se_X10_keep rfl rfl rfl rfl ⟨by decide, by decide⟩ (c_X10_keep cx.1 p0 p1 r8) (fun r9 => ?_)
      exact sn_zreturn rfl dX10_take_57
    refine sn_aload_n (y := m_X10_take) (pc := 38) dX10_take_38 rfl ?_
    refine sn_iconst (y := m_X10_take) (pc := 39) dX10_take_39 kc_iconst_5 ?_
    refine sn_invV (y := m_X10_take) (pc := 40) ca_8 (av := [vI (5 : Int32)]) (o := p0) (st := []) dX10_take_40 lk_X10_251 im_X10_denied se_X10_denied rfl rfl rfl rfl ⟨by decide, by decide⟩ (c_X10_denied cx.1 p0 (5 : Int32)) (fun r10 => ?_)
    exact sn_zreturn rfl dX10_take_43
  refine sn_aload_n (y := m_X10_take) (pc := 21) dX10_take_21 rfl ?_
  refine sn_iconst (y := m_X10_take) (pc := 22) dX10_take_22 kc_iconst_1 ?_
  refine sn_invV (y := m_X10_take) (pc := 23) ca_8 (av := [vI (1 : Int32)]) (o := p0) (st := []) dX10_take_23 lk_X10_251 im_X10_denied se_X10_denied rfl rfl rfl rfl ⟨by decide, by decide⟩ (c_X10_denied cx.1 p0 (1 : Int32)) (fun r11 => ?_)
  exact sn_zreturn rfl dX10_take_26
set_option maxRecDepth 100000 in
theorem c_X10_take (g : Gl) (p0 : (Option Nat)) (p1 : Int32) (p2 : Int32) : Cn g m_X10_take eI [vA p0, vI p1, vI p2] (mCk 8 p0 (f_X10_take p0 p1 p2)) := cn_of_sn (by decide +kernel) rfl (fun r => ⟨r, rfl⟩) rfl (fun _ _ => sn_ck (s_X10_take p0 p1 p2))
/-! X10_jacobi -/
def f_X10_jacobi (p0 : (Option Nat)) (p1 : Int32) (p2 : Int32) (p3 : Int32) : Mo Int32 :=
  mBd (mCk 8 p0 (f_X10_fieldOfRegister p0 p1)) (fun r1 => mBd (f_X10_hasSum r1 p2 p3) (fun r2 => (if ¬ r2 = 0 then mBd (mGetA 8 1 p0) (fun r3 => mBd (mGetA 8 4 p0) (fun r4 => mBd (mCk 2 r1 (f_X2_jacobiSum r1 p2 p3 r3 r4)) (fun _ => mBd (mGetA 8 4 p0) (fun r5 => mBd (mCk 8 p0 (f_X10_keep p0 p1 r5)) (fun r6 => mRq (r6 = 0 ∨ r6 = 1) (mRt r6)))))) else mBd (mCk 8 p0 (f_X10_denied p0 (1 : Int32))) (fun r7 => mRq (r7 = 0 ∨ r7 = 1) (mRt r7)))))
set_option maxRecDepth 100000 in
theorem s_X10_jacobi {cx : CX} (p0 : (Option Nat)) (p1 : Int32) (p2 : Int32) (p3 : Int32) : Sn cx m_X10_jacobi eI 0 [(0, vA p0), (1, vI p1), (2, vI p2), (3, vI p3)] [] (f_X10_jacobi p0 p1 p2 p3) := by
  refine sn_aload_n (y := m_X10_jacobi) (pc := 0) dX10_jacobi_0 rfl ?_
  refine sn_iload_n (y := m_X10_jacobi) (pc := 1) dX10_jacobi_1 rfl ?_
  refine sn_invV (y := m_X10_jacobi) (pc := 2) ca_8 (av := [vI p1]) (o := p0) (st := []) dX10_jacobi_2 lk_X10_264 im_X10_fieldOfRegister se_X10_fieldOfRegister rfl rfl rfl rfl ⟨by decide, by decide⟩ (c_X10_fieldOfRegister cx.1 p0 p1) (fun r1 => ?_)
  refine sn_astore (y := m_X10_jacobi) (pc := 5) dX10_jacobi_5 rfl ?_
  refine sn_aload (y := m_X10_jacobi) (pc := 7) dX10_jacobi_7 rfl ?_
  refine sn_iload_n (y := m_X10_jacobi) (pc := 9) dX10_jacobi_9 rfl ?_
  refine sn_iload_n (y := m_X10_jacobi) (pc := 10) dX10_jacobi_10 rfl ?_
  refine sn_invS (y := m_X10_jacobi) (pc := 11) (av := [vA r1, vI p2, vI p3]) (st := []) dX10_jacobi_11 lk_X10_144 sw_X10_hasSum rfl rfl rfl ⟨by decide, by decide⟩ (c_X10_hasSum cx.1 r1 p2 p3) (fun r2 => ?_)
  refine sn_if_ne (y := m_X10_jacobi) (pc := 14) (tgt := 23) dX10_jacobi_14 (by decide) (fun _ => ?_) (fun _ => ?_)
  · refine sn_aload (y := m_X10_jacobi) (pc := 23) dX10_jacobi_23 rfl ?_
    refine sn_iload_n (y := m_X10_jacobi) (pc := 25) dX10_jacobi_25 rfl ?_
    refine sn_iload_n (y := m_X10_jacobi) (pc := 26) dX10_jacobi_26 rfl ?_
    refine sn_aload_n (y := m_X10_jacobi) (pc := 27) dX10_jacobi_27 rfl ?_
    refine sn_getA (y := m_X10_jacobi) (pc := 28) ca_8 rfl fk_X10_19 (fun _ _ _ => rfl) dX10_jacobi_28 (fun r3 => ?_)
    refine sn_aload_n (y := m_X10_jacobi) (pc := 31) dX10_jacobi_31 rfl ?_
    refine sn_getA (y := m_X10_jacobi) (pc := 32) ca_8 rfl fk_X10_37 (fun _ _ _ => rfl) dX10_jacobi_32 (fun r4 => ?_)
    refine sn_invV (y := m_X10_jacobi) (pc := 35) ca_2 (av := [vI p2, vI p3, vA r3, vA r4]) (o := r1) (st := []) dX10_jacobi_35 lk_X10_148 im_X2_jacobiSum se_X2_jacobiSum rfl rfl rfl rfl ⟨by decide, by decide⟩ (c_X2_jacobiSum cx.1 r1 p2 p3 r3 r4) (fun _ => ?_)
    refine sn_aload_n (y := m_X10_jacobi) (pc := 38) dX10_jacobi_38 rfl ?_
    refine sn_iload_n (y := m_X10_jacobi) (pc := 39) dX10_jacobi_39 rfl ?_
    refine sn_aload_n (y := m_X10_jacobi) (pc := 40) dX10_jacobi_40 rfl ?_
    refine sn_getA (y := m_X10_jacobi) (pc := 41) ca_8 rfl fk_X10_37 (fun _ _ _ => rfl) dX10_jacobi_41 (fun r5 => ?_)
    refine sn_invV (y := m_X10_jacobi) (pc := 44) ca_8 (av := [vI p1, vA r5]) (o := p0) (st := []) dX10_jacobi_44 lk_X10_274 im_X10_keep se_X10_keep rfl rfl rfl rfl ⟨by decide, by decide⟩ (c_X10_keep cx.1 p0 p1 r5) (fun r6 => ?_)
    exact sn_zreturn rfl dX10_jacobi_47
  refine sn_aload_n (y := m_X10_jacobi) (pc := 17) dX10_jacobi_17 rfl ?_
  refine sn_iconst (y := m_X10_jacobi) (pc := 18) dX10_jacobi_18 kc_iconst_1 ?_
  refine sn_invV (y := m_X10_jacobi) (pc := 19) ca_8 (av := [vI (1 : Int32)]) (o := p0) (st := []) dX10_jacobi_19 lk_X10_251 im_X10_denied se_X10_denied rfl rfl rfl rfl ⟨by decide, by decide⟩ (c_X10_denied cx.1 p0 (1 : Int32)) (fun r7 => ?_)
  exact sn_zreturn rfl dX10_jacobi_22
set_option maxRecDepth 100000 in
theorem c_X10_jacobi (g : Gl) (p0 : (Option Nat)) (p1 : Int32) (p2 : Int32) (p3 : Int32) : Cn g m_X10_jacobi eI [vA p0, vI p1, vI p2, vI p3] (mCk 8 p0 (f_X10_jacobi p0 p1 p2 p3)) := cn_of_sn (by decide +kernel) rfl (fun r => ⟨r, rfl⟩) rfl (fun _ _ => sn_ck (s_X10_jacobi p0 p1 p2 p3))
/-! X10_add -/
def f_X10_add (p0 : (Option Nat)) (p1 : Int32) (p2 : Int32) (p3 : Int32) : Mo Int32 :=
  mBd (mCk 8 p0 (f_X10_fieldOfRegister p0 p1)) (fun r1 => (if r1 = none then mBd (mCk 8 p0 (f_X10_denied p0 (1 : Int32))) (fun r2 => mRq (r2 = 0 ∨ r2 = 1) (mRt r2)) else mBd (mCk 8 p0 (f_X10_fieldOfRegister p0 p2)) (fun r3 => (if r3 = none then mBd (mCk 8 p0 (f_X10_denied p0 (1 : Int32))) (fun r14 => mRq (r14 = 0 ∨ r14 = 1) (mRt r14)) else (if p3 < (-999 : Int32) then mBd (mCk 8 p0 (f_X10_denied p0 (2 : Int32))) (fun r4 => mRq (r4 = 0 ∨ r4 = 1) (mRt r4)) else (if p3 ≤ (999 : Int32) then mBd (mGetA 8 2 p0) (fun r5 => mBd (mGetA 8 4 p0) (fun r6 => mBd (mCk 4 r5 (f_X4_copyOut r5 p1 r6)) (fun _ => mBd (mGetA 8 2 p0) (fun r7 => mBd (mGetA 8 5 p0) (fun r8 => mBd (mCk 4 r7 (f_X4_copyOut r7 p2 r8)) (fun _ => mBd (mGetA 8 4 p0) (fun r9 => mBd (mGetA 8 5 p0) (fun r10 => mBd (f_X6_addTimes r9 r10 (p3.toInt64)) (fun _ => mBd (mGetA 8 4 p0) (fun r11 => mBd (mCk 8 p0 (f_X10_keep p0 p1 r11)) (fun r12 => mRq (r12 = 0 ∨ r12 = 1) (mRt r12)))))))))))) else mBd (mCk 8 p0 (f_X10_denied p0 (2 : Int32))) (fun r13 => mRq (r13 = 0 ∨ r13 = 1) (mRt r13))))))))
set_option maxRecDepth 100000 in
theorem s_X10_add {cx : CX} (p0 : (Option Nat)) (p1 : Int32) (p2 : Int32) (p3 : Int32) : Sn cx m_X10_add eI 0 [(0, vA p0), (1, vI p1), (2, vI p2), (3, vI p3)] [] (f_X10_add p0 p1 p2 p3) := by
  refine sn_aload_n (y := m_X10_add) (pc := 0) dX10_add_0 rfl ?_
  refine sn_iload_n (y := m_X10_add) (pc := 1) dX10_add_1 rfl ?_
  refine sn_invV (y := m_X10_add) (pc := 2) ca_8 (av := [vI p1]) (o := p0) (st := []) dX10_add_2 lk_X10_264 im_X10_fieldOfRegister se_X10_fieldOfRegister rfl rfl rfl rfl ⟨by decide, by decide⟩ (c_X10_fieldOfRegister cx.1 p0 p1) (fun r1 => ?_)
  refine sn_ifnull (y := m_X10_add) (pc := 5) (tgt := 16) dX10_add_5 (by decide) ?_ ?_
  · refine sn_aload_n (y := m_X10_add) (pc := 16) dX10_add_16 rfl ?_
    refine sn_iconst (y := m_X10_add) (pc := 17) dX10_add_17 kc_iconst_1 ?_
    refine sn_invV (y := m_X10_add) (pc := 18) ca_8 (av := [vI (1 : Int32)]) (o := p0) (st := []) dX10_add_18 lk_X10_251 im_X10_denied se_X10_denied rfl rfl rfl rfl ⟨by decide, by decide⟩ (c_X10_denied cx.1 p0 (1 : Int32)) (fun r2 => ?_)
    exact sn_zreturn rfl dX10_add_21
  refine sn_aload_n (y := m_X10_add) (pc := 8) dX10_add_8 rfl ?_
  refine sn_iload_n (y := m_X10_add) (pc := 9) dX10_add_9 rfl ?_
  refine sn_invV (y := m_X10_add) (pc := 10) ca_8 (av := [vI p2]) (o := p0) (st := []) dX10_add_10 lk_X10_264 im_X10_fieldOfRegister se_X10_fieldOfRegister rfl rfl rfl rfl ⟨by decide, by decide⟩ (c_X10_fieldOfRegister cx.1 p0 p2) (fun r3 => ?_)
  refine sn_ifnonnull (y := m_X10_add) (pc := 13) (tgt := 22) dX10_add_13 (by decide) ?_ ?_
  · refine sn_aload_n (y := m_X10_add) (pc := 16) dX10_add_16 rfl ?_
    refine sn_iconst (y := m_X10_add) (pc := 17) dX10_add_17 kc_iconst_1 ?_
    refine sn_invV (y := m_X10_add) (pc := 18) ca_8 (av := [vI (1 : Int32)]) (o := p0) (st := []) dX10_add_18 lk_X10_251 im_X10_denied se_X10_denied rfl rfl rfl rfl ⟨by decide, by decide⟩ (c_X10_denied cx.1 p0 (1 : Int32)) (fun r14 => ?_)
    exact sn_zreturn rfl dX10_add_21
  refine sn_iload_n (y := m_X10_add) (pc := 22) dX10_add_22 rfl ?_
  refine sn_sipush (y := m_X10_add) (pc := 23) dX10_add_23 kc_sipush_m999 ?_
  refine sn_icmp_lt (y := m_X10_add) (pc := 26) (tgt := 36) dX10_add_26 (by decide) (fun _ => ?_) (fun _ => ?_)
  · refine sn_aload_n (y := m_X10_add) (pc := 36) dX10_add_36 rfl ?_
    refine sn_iconst (y := m_X10_add) (pc := 37) dX10_add_37 kc_iconst_2 ?_
    refine sn_invV (y := m_X10_add) (pc := 38) ca_8 (av := [vI (2 : Int32)]) (o := p0) (st := []) dX10_add_38 lk_X10_251 im_X10_denied se_X10_denied rfl rfl rfl rfl ⟨by decide, by decide⟩ (c_X10_denied cx.1 p0 (2 : Int32)) (fun r4 => ?_)
    exact sn_zreturn rfl dX10_add_41
  refine sn_iload_n (y := m_X10_add) (pc := 29) dX10_add_29 rfl ?_
  refine sn_sipush (y := m_X10_add) (pc := 30) dX10_add_30 kc_sipush_999 ?_
  refine sn_icmp_le (y := m_X10_add) (pc := 33) (tgt := 42) dX10_add_33 (by decide) (fun _ => ?_) (fun _ => ?_)
  · refine sn_aload_n (y := m_X10_add) (pc := 42) dX10_add_42 rfl ?_
    refine sn_getA (y := m_X10_add) (pc := 43) ca_8 rfl fk_X10_26 (fun _ _ _ => rfl) dX10_add_43 (fun r5 => ?_)
    refine sn_iload_n (y := m_X10_add) (pc := 46) dX10_add_46 rfl ?_
    refine sn_aload_n (y := m_X10_add) (pc := 47) dX10_add_47 rfl ?_
    refine sn_getA (y := m_X10_add) (pc := 48) ca_8 rfl fk_X10_37 (fun _ _ _ => rfl) dX10_add_48 (fun r6 => ?_)
    refine sn_invV (y := m_X10_add) (pc := 51) ca_4 (av := [vI p1, vA r6]) (o := r5) (st := []) dX10_add_51 lk_X10_267 im_X4_copyOut se_X4_copyOut rfl rfl rfl rfl ⟨by decide, by decide⟩ (c_X4_copyOut cx.1 r5 p1 r6) (fun _ => ?_)
    refine sn_aload_n (y := m_X10_add) (pc := 54) dX10_add_54 rfl ?_
    refine sn_getA (y := m_X10_add) (pc := 55) ca_8 rfl fk_X10_26 (fun _ _ _ => rfl) dX10_add_55 (fun r7 => ?_)
    refine sn_iload_n (y := m_X10_add) (pc := 58) dX10_add_58 rfl ?_
    refine sn_aload_n (y := m_X10_add) (pc := 59) dX10_add_59 rfl ?_
    refine sn_getA (y := m_X10_add) (pc := 60) ca_8 rfl fk_X10_41 (fun _ _ _ => rfl) dX10_add_60 (fun r8 => ?_)
    refine sn_invV (y := m_X10_add) (pc := 63) ca_4 (av := [vI p2, vA r8]) (o := r7) (st := []) dX10_add_63 lk_X10_267 im_X4_copyOut se_X4_copyOut rfl rfl rfl rfl ⟨by decide, by decide⟩ (c_X4_copyOut cx.1 r7 p2 r8) (fun _ => ?_)
    refine sn_aload_n (y := m_X10_add) (pc := 66) dX10_add_66 rfl ?_
    refine sn_getA (y := m_X10_add) (pc := 67) ca_8 rfl fk_X10_37 (fun _ _ _ => rfl) dX10_add_67 (fun r9 => ?_)
    refine sn_aload_n (y := m_X10_add) (pc := 70) dX10_add_70 rfl ?_
    refine sn_getA (y := m_X10_add) (pc := 71) ca_8 rfl fk_X10_41 (fun _ _ _ => rfl) dX10_add_71 (fun r10 => ?_)
    refine sn_iload_n (y := m_X10_add) (pc := 74) dX10_add_74 rfl ?_
    refine sn_i2l (y := m_X10_add) (pc := 75) dX10_add_75 ?_
    refine sn_invS (y := m_X10_add) (pc := 76) (av := [vA r9, vA r10, vJ (p3.toInt64)]) (st := []) dX10_add_76 lk_X10_278 sw_X6_addTimes rfl rfl rfl ⟨by decide, by decide⟩ (c_X6_addTimes cx.1 r9 r10 (p3.toInt64)) (fun _ => ?_)
    refine sn_aload_n (y := m_X10_add) (pc := 79) dX10_add_79 rfl ?_
    refine sn_iload_n (y := m_X10_add) (pc := 80) dX10_add_80 rfl ?_
    refine sn_aload_n (y := m_X10_add) (pc := 81) dX10_add_81 rfl ?_
    refine sn_getA (y := m_X10_add) (pc := 82) ca_8 rfl fk_X10_37 (fun _ _ _ => rfl) dX10_add_82 (fun r11 => ?_)
    refine sn_invV (y := m_X10_add) (pc := 85) ca_8 (av := [vI p1, vA r11]) (o := p0) (st := []) dX10_add_85 lk_X10_274 im_X10_keep se_X10_keep rfl rfl rfl rfl ⟨by decide, by decide⟩ (c_X10_keep cx.1 p0 p1 r11) (fun r12 => ?_)
    exact sn_zreturn rfl dX10_add_88
  refine sn_aload_n (y := m_X10_add) (pc := 36) dX10_add_36 rfl ?_
  refine sn_iconst (y := m_X10_add) (pc := 37) dX10_add_37 kc_iconst_2 ?_
  refine sn_invV (y := m_X10_add) (pc := 38) ca_8 (av := [vI (2 : Int32)]) (o := p0) (st := []) dX10_add_38 lk_X10_251 im_X10_denied se_X10_denied rfl rfl rfl rfl ⟨by decide, by decide⟩ (c_X10_denied cx.1 p0 (2 : Int32)) (fun r13 => ?_)
  exact sn_zreturn rfl dX10_add_41
set_option maxRecDepth 100000 in
theorem c_X10_add (g : Gl) (p0 : (Option Nat)) (p1 : Int32) (p2 : Int32) (p3 : Int32) : Cn g m_X10_add eI [vA p0, vI p1, vI p2, vI p3] (mCk 8 p0 (f_X10_add p0 p1 p2 p3)) := cn_of_sn (by decide +kernel) rfl (fun r => ⟨r, rfl⟩) rfl (fun _ _ => sn_ck (s_X10_add p0 p1 p2 p3))
/-! X10_times -/
def f_X10_times (p0 : (Option Nat)) (p1 : Int32) (p2 : Int32) : Mo Int32 :=
  mBd (mCk 8 p0 (f_X10_fieldOfRegister p0 p1)) (fun r1 => (if r1 = none then mBd (mCk 8 p0 (f_X10_denied p0 (1 : Int32))) (fun r2 => mRq (r2 = 0 ∨ r2 = 1) (mRt r2)) else mBd (mCk 8 p0 (f_X10_fieldOfRegister p0 p2)) (fun r3 => (if r3 = none then mBd (mCk 8 p0 (f_X10_denied p0 (1 : Int32))) (fun r15 => mRq (r15 = 0 ∨ r15 = 1) (mRt r15)) else mBd (mGetA 8 2 p0) (fun r4 => mBd (mGetA 8 4 p0) (fun r5 => mBd (mCk 4 r4 (f_X4_copyOut r4 p1 r5)) (fun _ => mBd (mGetA 8 2 p0) (fun r6 => mBd (mGetA 8 5 p0) (fun r7 => mBd (mCk 4 r6 (f_X4_copyOut r6 p2 r7)) (fun _ => mBd (mGetA 8 1 p0) (fun r8 => mBd (mGetA 8 4 p0) (fun r9 => mBd (mGetA 8 5 p0) (fun r10 => mBd (mGetA 8 6 p0) (fun r11 => mBd (mCk 2 r1 (f_X2_order r1)) (fun r12 => mBd (mCk 5 r8 (f_X5_multiply r8 r9 r10 r11 r12)) (fun _ => mBd (mGetA 8 6 p0) (fun r13 => mBd (mCk 8 p0 (f_X10_keep p0 p1 r13)) (fun r14 => mRq (r14 = 0 ∨ r14 = 1) (mRt r14)))))))))))))))))))
set_option maxRecDepth 100000 in
theorem s_X10_times {cx : CX} (p0 : (Option Nat)) (p1 : Int32) (p2 : Int32) : Sn cx m_X10_times eI 0 [(0, vA p0), (1, vI p1), (2, vI p2)] [] (f_X10_times p0 p1 p2) := by
  refine sn_aload_n (y := m_X10_times) (pc := 0) dX10_times_0 rfl ?_
  refine sn_iload_n (y := m_X10_times) (pc := 1) dX10_times_1 rfl ?_
  refine sn_invV (y := m_X10_times) (pc := 2) ca_8 (av := [vI p1]) (o := p0) (st := []) dX10_times_2 lk_X10_264 im_X10_fieldOfRegister se_X10_fieldOfRegister rfl rfl rfl rfl ⟨by decide, by decide⟩ (c_X10_fieldOfRegister cx.1 p0 p1) (fun r1 => ?_)
  refine sn_astore_n (y := m_X10_times) (pc := 5) dX10_times_5 rfl ?_
  refine sn_aload_n (y := m_X10_times) (pc := 6) dX10_times_6 rfl ?_
  refine sn_ifnull (y := m_X10_times) (pc := 7) (tgt := 18) dX10_times_7 (by decide) ?_ ?_
  · refine sn_aload_n (y := m_X10_times) (pc := 18) dX10_times_18 rfl ?_
    refine sn_iconst (y := m_X10_times) (pc := 19) dX10_times_19 kc_iconst_1 ?_
    refine sn_invV (y := m_X10_times) (pc := 20) ca_8 (av := [vI (1 : Int32)]) (o := p0) (st := []) dX10_times_20 lk_X10_251 im_X10_denied se_X10_denied rfl rfl rfl rfl ⟨by decide, by decide⟩ (c_X10_denied cx.1 p0 (1 : Int32)) (fun r2 => ?_)
    exact sn_zreturn rfl dX10_times_23
  refine sn_aload_n (y := m_X10_times) (pc := 10) dX10_times_10 rfl ?_
  refine sn_iload_n (y := m_X10_times) (pc := 11) dX10_times_11 rfl ?_
  refine sn_invV (y := m_X10_times) (pc := 12) ca_8 (av := [vI p2]) (o := p0) (st := []) dX10_times_12 lk_X10_264 im_X10_fieldOfRegister se_X10_fieldOfRegister rfl rfl rfl rfl ⟨by decide, by decide⟩ (c_X10_fieldOfRegister cx.1 p0 p2) (fun r3 => ?_)
  refine sn_ifnonnull (y := m_X10_times) (pc := 15) (tgt := 24) dX10_times_15 (by decide) ?_ ?_
  · refine sn_aload_n (y := m_X10_times) (pc := 18) dX10_times_18 rfl ?_
    refine sn_iconst (y := m_X10_times) (pc := 19) dX10_times_19 kc_iconst_1 ?_
    refine sn_invV (y := m_X10_times) (pc := 20) ca_8 (av := [vI (1 : Int32)]) (o := p0) (st := []) dX10_times_20 lk_X10_251 im_X10_denied se_X10_denied rfl rfl rfl rfl ⟨by decide, by decide⟩ (c_X10_denied cx.1 p0 (1 : Int32)) (fun r15 => ?_)
    exact sn_zreturn rfl dX10_times_23
  refine sn_aload_n (y := m_X10_times) (pc := 24) dX10_times_24 rfl ?_
  refine sn_getA (y := m_X10_times) (pc := 25) ca_8 rfl fk_X10_26 (fun _ _ _ => rfl) dX10_times_25 (fun r4 => ?_)
  refine sn_iload_n (y := m_X10_times) (pc := 28) dX10_times_28 rfl ?_
  refine sn_aload_n (y := m_X10_times) (pc := 29) dX10_times_29 rfl ?_
  refine sn_getA (y := m_X10_times) (pc := 30) ca_8 rfl fk_X10_37 (fun _ _ _ => rfl) dX10_times_30 (fun r5 => ?_)
  refine sn_invV (y := m_X10_times) (pc := 33) ca_4 (av := [vI p1, vA r5]) (o := r4) (st := []) dX10_times_33 lk_X10_267 im_X4_copyOut se_X4_copyOut rfl rfl rfl rfl ⟨by decide, by decide⟩ (c_X4_copyOut cx.1 r4 p1 r5) (fun _ => ?_)
  refine sn_aload_n (y := m_X10_times) (pc := 36) dX10_times_36 rfl ?_
  refine sn_getA (y := m_X10_times) (pc := 37) ca_8 rfl fk_X10_26 (fun _ _ _ => rfl) dX10_times_37 (fun r6 => ?_)
  refine sn_iload_n (y := m_X10_times) (pc := 40) dX10_times_40 rfl ?_
  refine sn_aload_n (y := m_X10_times) (pc := 41) dX10_times_41 rfl ?_
  refine sn_getA (y := m_X10_times) (pc := 42) ca_8 rfl fk_X10_41 (fun _ _ _ => rfl) dX10_times_42 (fun r7 => ?_)
  refine sn_invV (y := m_X10_times) (pc := 45) ca_4 (av := [vI p2, vA r7]) (o := r6) (st := []) dX10_times_45 lk_X10_267 im_X4_copyOut se_X4_copyOut rfl rfl rfl rfl ⟨by decide, by decide⟩ (c_X4_copyOut cx.1 r6 p2 r7) (fun _ => ?_)
  refine sn_aload_n (y := m_X10_times) (pc := 48) dX10_times_48 rfl ?_
  refine sn_getA (y := m_X10_times) (pc := 49) ca_8 rfl fk_X10_19 (fun _ _ _ => rfl) dX10_times_49 (fun r8 => ?_)
  refine sn_aload_n (y := m_X10_times) (pc := 52) dX10_times_52 rfl ?_
  refine sn_getA (y := m_X10_times) (pc := 53) ca_8 rfl fk_X10_37 (fun _ _ _ => rfl) dX10_times_53 (fun r9 => ?_)
  refine sn_aload_n (y := m_X10_times) (pc := 56) dX10_times_56 rfl ?_
  refine sn_getA (y := m_X10_times) (pc := 57) ca_8 rfl fk_X10_41 (fun _ _ _ => rfl) dX10_times_57 (fun r10 => ?_)
  refine sn_aload_n (y := m_X10_times) (pc := 60) dX10_times_60 rfl ?_
  refine sn_getA (y := m_X10_times) (pc := 61) ca_8 rfl fk_X10_44 (fun _ _ _ => rfl) dX10_times_61 (fun r11 => ?_)
  refine sn_aload_n (y := m_X10_times) (pc := 64) dX10_times_64 rfl ?_
  refine sn_invV (y := m_X10_times) (pc := 65) ca_2 (av := []) (o := r1) (st := [vA r11, vA r10, vA r9, vA r8]) dX10_times_65 lk_X10_120 im_X2_order se_X2_order rfl rfl rfl rfl ⟨by decide, by decide⟩ (c_X2_order cx.1 r1) (fun r12 => ?_)
  refine sn_invV (y := m_X10_times) (pc := 68) ca_5 (av := [vA r9, vA r10, vA r11, vI r12]) (o := r8) (st := []) dX10_times_68 lk_X10_162 im_X5_multiply se_X5_multiply rfl rfl rfl rfl ⟨by decide, by decide⟩ (c_X5_multiply cx.1 r8 r9 r10 r11 r12) (fun _ => ?_)
  refine sn_aload_n (y := m_X10_times) (pc := 71) dX10_times_71 rfl ?_
  refine sn_iload_n (y := m_X10_times) (pc := 72) dX10_times_72 rfl ?_
  refine sn_aload_n (y := m_X10_times) (pc := 73) dX10_times_73 rfl ?_
  refine sn_getA (y := m_X10_times) (pc := 74) ca_8 rfl fk_X10_44 (fun _ _ _ => rfl) dX10_times_74 (fun r13 => ?_)
  refine sn_invV (y := m_X10_times) (pc := 77) ca_8 (av := [vI p1, vA r13]) (o := p0) (st := []) dX10_times_77 lk_X10_274 im_X10_keep se_X10_keep rfl rfl rfl rfl ⟨by decide, by decide⟩ (c_X10_keep cx.1 p0 p1 r13) (fun r14 => ?_)
  exact sn_zreturn rfl dX10_times_80
set_option maxRecDepth 100000 in
theorem c_X10_times (g : Gl) (p0 : (Option Nat)) (p1 : Int32) (p2 : Int32) : Cn g m_X10_times eI [vA p0, vI p1, vI p2] (mCk 8 p0 (f_X10_times p0 p1 p2)) := cn_of_sn (by decide +kernel) rfl (fun r => ⟨r, rfl⟩) rfl (fun _ _ => sn_ck (s_X10_times p0 p1 p2))
/-! X10_turn -/
def f_X10_turn (p0 : (Option Nat)) (p1 : Int32) (p2 : Int32) : Mo Int32 :=
  mBd (mCk 8 p0 (f_X10_fieldOfRegister p0 p1)) (fun r1 => (if r1 = none then mBd (mCk 8 p0 (f_X10_denied p0 (1 : Int32))) (fun r12 => mRq (r12 = 0 ∨ r12 = 1) (mRt r12)) else mBd (mCk 2 r1 (f_X2_hasTurn r1 p2)) (fun r2 => (if ¬ r2 = 0 then mBd (mGetA 8 2 p0) (fun r3 => mBd (mGetA 8 4 p0) (fun r4 => mBd (mCk 4 r3 (f_X4_copyOut r3 p1 r4)) (fun _ => mBd (mGetA 8 1 p0) (fun r5 => mBd (mGetA 8 4 p0) (fun r6 => mBd (mGetA 8 5 p0) (fun r7 => mBd (mCk 2 r1 (f_X2_order r1)) (fun r8 => mBd (mCk 5 r5 (f_X5_turnRow r5 r6 p2 r7 r8)) (fun _ => mBd (mGetA 8 5 p0) (fun r9 => mBd (mCk 8 p0 (f_X10_keep p0 p1 r9)) (fun r10 => mRq (r10 = 0 ∨ r10 = 1) (mRt r10))))))))))) else mBd (mCk 8 p0 (f_X10_denied p0 (2 : Int32))) (fun r11 => mRq (r11 = 0 ∨ r11 = 1) (mRt r11))))))
set_option maxRecDepth 100000 in
theorem s_X10_turn {cx : CX} (p0 : (Option Nat)) (p1 : Int32) (p2 : Int32) : Sn cx m_X10_turn eI 0 [(0, vA p0), (1, vI p1), (2, vI p2)] [] (f_X10_turn p0 p1 p2) := by
  refine sn_aload_n (y := m_X10_turn) (pc := 0) dX10_turn_0 rfl ?_
  refine sn_iload_n (y := m_X10_turn) (pc := 1) dX10_turn_1 rfl ?_
  refine sn_invV (y := m_X10_turn) (pc := 2) ca_8 (av := [vI p1]) (o := p0) (st := []) dX10_turn_2 lk_X10_264 im_X10_fieldOfRegister se_X10_fieldOfRegister rfl rfl rfl rfl ⟨by decide, by decide⟩ (c_X10_fieldOfRegister cx.1 p0 p1) (fun r1 => ?_)
  refine sn_astore_n (y := m_X10_turn) (pc := 5) dX10_turn_5 rfl ?_
  refine sn_aload_n (y := m_X10_turn) (pc := 6) dX10_turn_6 rfl ?_
  refine sn_ifnonnull (y := m_X10_turn) (pc := 7) (tgt := 16) dX10_turn_7 (by decide) ?_ ?_
  · refine sn_aload_n (y := m_X10_turn) (pc := 10) dX10_turn_10 rfl ?_
    refine sn_iconst (y := m_X10_turn) (pc := 11) dX10_turn_11 kc_iconst_1 ?_
    refine sn_invV (y := m_X10_turn) (pc := 12) ca_8 (av := [vI (1 : Int32)]) (o := p0) (st := []) dX10_turn_12 lk_X10_251 im_X10_denied se_X10_denied rfl rfl rfl rfl ⟨by decide, by decide⟩ (c_X10_denied cx.1 p0 (1 : Int32)) (fun r12 => ?_)
    exact sn_zreturn rfl dX10_turn_15
  refine sn_aload_n (y := m_X10_turn) (pc := 16) dX10_turn_16 rfl ?_
  refine sn_iload_n (y := m_X10_turn) (pc := 17) dX10_turn_17 rfl ?_
  refine sn_invV (y := m_X10_turn) (pc := 18) ca_2 (av := [vI p2]) (o := r1) (st := []) dX10_turn_18 lk_X10_178 im_X2_hasTurn se_X2_hasTurn rfl rfl rfl rfl ⟨by decide, by decide⟩ (c_X2_hasTurn cx.1 r1 p2) (fun r2 => ?_)
  refine sn_if_ne (y := m_X10_turn) (pc := 21) (tgt := 30) dX10_turn_21 (by decide) (fun _ => ?_) (fun _ => ?_)
  · refine sn_aload_n (y := m_X10_turn) (pc := 30) dX10_turn_30 rfl ?_
    refine sn_getA (y := m_X10_turn) (pc := 31) ca_8 rfl fk_X10_26 (fun _ _ _ => rfl) dX10_turn_31 (fun r3 => ?_)
    refine sn_iload_n (y := m_X10_turn) (pc := 34) dX10_turn_34 rfl ?_
    refine sn_aload_n (y := m_X10_turn) (pc := 35) dX10_turn_35 rfl ?_
    refine sn_getA (y := m_X10_turn) (pc := 36) ca_8 rfl fk_X10_37 (fun _ _ _ => rfl) dX10_turn_36 (fun r4 => ?_)
    refine sn_invV (y := m_X10_turn) (pc := 39) ca_4 (av := [vI p1, vA r4]) (o := r3) (st := []) dX10_turn_39 lk_X10_267 im_X4_copyOut se_X4_copyOut rfl rfl rfl rfl ⟨by decide, by decide⟩ (c_X4_copyOut cx.1 r3 p1 r4) (fun _ => ?_)
    refine sn_aload_n (y := m_X10_turn) (pc := 42) dX10_turn_42 rfl ?_
    refine sn_getA (y := m_X10_turn) (pc := 43) ca_8 rfl fk_X10_19 (fun _ _ _ => rfl) dX10_turn_43 (fun r5 => ?_)
    refine sn_aload_n (y := m_X10_turn) (pc := 46) dX10_turn_46 rfl ?_
    refine sn_getA (y := m_X10_turn) (pc := 47) ca_8 rfl fk_X10_37 (fun _ _ _ => rfl) dX10_turn_47 (fun r6 => ?_)
    refine sn_iload_n (y := m_X10_turn) (pc := 50) dX10_turn_50 rfl ?_
    refine sn_aload_n (y := m_X10_turn) (pc := 51) dX10_turn_51 rfl ?_
    refine sn_getA (y := m_X10_turn) (pc := 52) ca_8 rfl fk_X10_41 (fun _ _ _ => rfl) dX10_turn_52 (fun r7 => ?_)
    refine sn_aload_n (y := m_X10_turn) (pc := 55) dX10_turn_55 rfl ?_
    refine sn_invV (y := m_X10_turn) (pc := 56) ca_2 (av := []) (o := r1) (st := [vA r7, vI p2, vA r6, vA r5]) dX10_turn_56 lk_X10_120 im_X2_order se_X2_order rfl rfl rfl rfl ⟨by decide, by decide⟩ (c_X2_order cx.1 r1) (fun r8 => ?_)
    refine sn_invV (y := m_X10_turn) (pc := 59) ca_5 (av := [vA r6, vI p2, vA r7, vI r8]) (o := r5) (st := []) dX10_turn_59 lk_X10_158 im_X5_turnRow se_X5_turnRow rfl rfl rfl rfl ⟨by decide, by decide⟩ (c_X5_turnRow cx.1 r5 r6 p2 r7 r8) (fun _ => ?_)
    refine sn_aload_n (y := m_X10_turn) (pc := 62) dX10_turn_62 rfl ?_
    refine sn_iload_n (y := m_X10_turn) (pc := 63) dX10_turn_63 rfl ?_
    refine sn_aload_n (y := m_X10_turn) (pc := 64) dX10_turn_64 rfl ?_
    refine sn_getA (y := m_X10_turn) (pc := 65) ca_8 rfl fk_X10_41 (fun _ _ _ => rfl) dX10_turn_65 (fun r9 => ?_)
    refine sn_invV (y := m_X10_turn) (pc := 68) ca_8 (av := [vI p1, vA r9]) (o := p0) (st := []) dX10_turn_68 lk_X10_274 im_X10_keep se_X10_keep rfl rfl rfl rfl ⟨by decide, by decide⟩ (c_X10_keep cx.1 p0 p1 r9) (fun r10 => ?_)
    exact sn_zreturn rfl dX10_turn_71
  refine sn_aload_n (y := m_X10_turn) (pc := 24) dX10_turn_24 rfl ?_
  refine sn_iconst (y := m_X10_turn) (pc := 25) dX10_turn_25 kc_iconst_2 ?_
  refine sn_invV (y := m_X10_turn) (pc := 26) ca_8 (av := [vI (2 : Int32)]) (o := p0) (st := []) dX10_turn_26 lk_X10_251 im_X10_denied se_X10_denied rfl rfl rfl rfl ⟨by decide, by decide⟩ (c_X10_denied cx.1 p0 (2 : Int32)) (fun r11 => ?_)
  exact sn_zreturn rfl dX10_turn_29
set_option maxRecDepth 100000 in
theorem c_X10_turn (g : Gl) (p0 : (Option Nat)) (p1 : Int32) (p2 : Int32) : Cn g m_X10_turn eI [vA p0, vI p1, vI p2] (mCk 8 p0 (f_X10_turn p0 p1 p2)) := cn_of_sn (by decide +kernel) rfl (fun r => ⟨r, rfl⟩) rfl (fun _ _ => sn_ck (s_X10_turn p0 p1 p2))
