/-! X13_let -/
def f_X13_let (p0 : (Option Nat)) (p1 : Int32) (p2 : Int32) : Mo Int32 :=
  mBd (mPutI 11 0 p0 (0 : Int32)) (fun _ => mBd (mCk 11 p0 (f_X13_isLet p0 p1)) (fun r1 => (if r1 = 0 then mBd (mCk 11 p0 (f_X13_refusedBy p0 (1 : Int32) (-1000000000 : Int32))) (fun r2 => mRt r2) else mBd (mCk 11 p0 (f_X13_fieldOf p0 p1)) (fun r3 => mBd (mGetI 10 3 r3) (fun r4 => mBd (f_X13_in p2 (0 : Int32) (r4 - (1 : Int32))) (fun r5 => (if r5 = 0 then mBd (mCk 11 p0 (f_X13_refusedBy p0 (1 : Int32) (-1000000000 : Int32))) (fun r6 => mRt r6) else mBd (mGetA 11 3 p0) (fun r7 => mBd (mGetA 9 11 r7) (fun r8 => mBd (mLdJ r8 (((12 : Int32) * p1) + p2)) (fun r9 => mBd (mCk 11 p0 (f_X13_good p0 (r9.toInt32))) (fun r10 => mRt r10)))))))))))
set_option maxRecDepth 100000 in
theorem s_X13_let {cx : CX} (p0 : (Option Nat)) (p1 : Int32) (p2 : Int32) : Sn cx m_X13_let eI 0 [(0, vA p0), (1, vI p1), (2, vI p2)] [] (f_X13_let p0 p1 p2) := by
  refine sn_aload_n (y := m_X13_let) (pc := 0) dX13_let_0 rfl ?_
  refine sn_iconst (y := m_X13_let) (pc := 1) dX13_let_1 kc_iconst_0 ?_
  refine sn_putI (y := m_X13_let) (pc := 2) ca_11 rfl fk_X13_46 (Or.inl rfl) rfl dX13_let_2 ?_
  refine sn_aload_n (y := m_X13_let) (pc := 5) dX13_let_5 rfl ?_
  refine sn_iload_n (y := m_X13_let) (pc := 6) dX13_let_6 rfl ?_
  refine sn_invV (y := m_X13_let) (pc := 7) ca_11 (av := [vI p1]) (o := p0) (st := []) dX13_let_7 lk_X13_403 im_X13_isLet se_X13_isLet rfl rfl rfl rfl ⟨by decide, by decide⟩ (c_X13_isLet cx.1 p0 p1) (fun r1 => ?_)
  refine sn_if_eq (y := m_X13_let) (pc := 10) (tgt := 53) dX13_let_10 (by decide) (fun _ => ?_) (fun _ => ?_)
  · refine sn_aload_n (y := m_X13_let) (pc := 53) dX13_let_53 rfl ?_
    refine sn_iconst (y := m_X13_let) (pc := 54) dX13_let_54 kc_iconst_1 ?_
    refine sn_ldcW (y := m_X13_let) (pc := 55) ki_X13_410 dX13_let_55 ?_
    refine sn_invV (y := m_X13_let) (pc := 58) ca_11 (av := [vI (1 : Int32), vI (-1000000000 : Int32)]) (o := p0) (st := []) dX13_let_58 lk_X13_391 im_X13_refusedBy se_X13_refusedBy rfl rfl rfl rfl ⟨by decide, by decide⟩ (c_X13_refusedBy cx.1 p0 (1 : Int32) (-1000000000 : Int32)) (fun r2 => ?_)
    exact sn_ireturn rfl dX13_let_61
  refine sn_iload_n (y := m_X13_let) (pc := 13) dX13_let_13 rfl ?_
  refine sn_iconst (y := m_X13_let) (pc := 14) dX13_let_14 kc_iconst_0 ?_
  refine sn_aload_n (y := m_X13_let) (pc := 15) dX13_let_15 rfl ?_
  refine sn_iload_n (y := m_X13_let) (pc := 16) dX13_let_16 rfl ?_
  refine sn_invV (y := m_X13_let) (pc := 17) ca_11 (av := [vI p1]) (o := p0) (st := [vI (0 : Int32), vI p2]) dX13_let_17 lk_X13_406 im_X13_fieldOf se_X13_fieldOf rfl rfl rfl rfl ⟨by decide, by decide⟩ (c_X13_fieldOf cx.1 p0 p1) (fun r3 => ?_)
  refine sn_getI (y := m_X13_let) (pc := 20) ca_10 rfl fk_X13_64 (fun _ _ _ => rfl) dX13_let_20 (fun r4 => ?_)
  refine sn_iconst (y := m_X13_let) (pc := 23) dX13_let_23 kc_iconst_1 ?_
  refine sn_isub (y := m_X13_let) (pc := 24) dX13_let_24 ?_
  refine sn_invS (y := m_X13_let) (pc := 25) (av := [vI p2, vI (0 : Int32), vI (r4 - (1 : Int32))]) (st := []) dX13_let_25 lk_X13_168 sw_X13_in rfl rfl rfl ⟨by decide, by decide⟩ (c_X13_in cx.1 p2 (0 : Int32) (r4 - (1 : Int32))) (fun r5 => ?_)
  refine sn_if_eq (y := m_X13_let) (pc := 28) (tgt := 53) dX13_let_28 (by decide) (fun _ => ?_) (fun _ => ?_)
  · refine sn_aload_n (y := m_X13_let) (pc := 53) dX13_let_53 rfl ?_
    refine sn_iconst (y := m_X13_let) (pc := 54) dX13_let_54 kc_iconst_1 ?_
    refine sn_ldcW (y := m_X13_let) (pc := 55) ki_X13_410 dX13_let_55 ?_
    refine sn_invV (y := m_X13_let) (pc := 58) ca_11 (av := [vI (1 : Int32), vI (-1000000000 : Int32)]) (o := p0) (st := []) dX13_let_58 lk_X13_391 im_X13_refusedBy se_X13_refusedBy rfl rfl rfl rfl ⟨by decide, by decide⟩ (c_X13_refusedBy cx.1 p0 (1 : Int32) (-1000000000 : Int32)) (fun r6 => ?_)
    exact sn_ireturn rfl dX13_let_61
  refine sn_aload_n (y := m_X13_let) (pc := 31) dX13_let_31 rfl ?_
  refine sn_aload_n (y := m_X13_let) (pc := 32) dX13_let_32 rfl ?_
  refine sn_getA (y := m_X13_let) (pc := 33) ca_11 rfl fk_X13_369 (fun _ _ _ => rfl) dX13_let_33 (fun r7 => ?_)
  refine sn_getA (y := m_X13_let) (pc := 36) ca_9 rfl fk_X13_314 (fun _ _ _ => rfl) dX13_let_36 (fun r8 => ?_)
  refine sn_bipush (y := m_X13_let) (pc := 39) dX13_let_39 kc_bipush_12 ?_
  refine sn_iload_n (y := m_X13_let) (pc := 41) dX13_let_41 rfl ?_
  refine sn_imul (y := m_X13_let) (pc := 42) dX13_let_42 ?_
  refine sn_iload_n (y := m_X13_let) (pc := 43) dX13_let_43 rfl ?_
  refine sn_iadd (y := m_X13_let) (pc := 44) dX13_let_44 ?_
  refine sn_laload (y := m_X13_let) (pc := 45) dX13_let_45 (fun r9 => ?_)
  refine sn_l2i (y := m_X13_let) (pc := 46) dX13_let_46 ?_
  refine sn_invV (y := m_X13_let) (pc := 47) ca_11 (av := [vI (r9.toInt32)]) (o := p0) (st := []) dX13_let_47 lk_X13_56 im_X13_good se_X13_good rfl rfl rfl rfl ⟨by decide, by decide⟩ (c_X13_good cx.1 p0 (r9.toInt32)) (fun r10 => ?_)
  refine sn_goto (y := m_X13_let) (pc := 50) (tgt := 61) dX13_let_50 (by decide) ?_
  exact sn_ireturn rfl dX13_let_61
set_option maxRecDepth 100000 in
theorem c_X13_let (g : Gl) (p0 : (Option Nat)) (p1 : Int32) (p2 : Int32) : Cn g m_X13_let eI [vA p0, vI p1, vI p2] (mCk 11 p0 (f_X13_let p0 p1 p2)) := cn_of_sn (by decide +kernel) rfl (fun r => ⟨r, rfl⟩) rfl (fun _ _ => sn_ck (s_X13_let p0 p1 p2))
/-! X13_letField -/
def f_X13_letField (p0 : (Option Nat)) (p1 : Int32) : Mo Int32 :=
  mBd (mPutI 11 0 p0 (0 : Int32)) (fun _ => mBd (mCk 11 p0 (f_X13_isLet p0 p1)) (fun r1 => (if r1 = 0 then mBd (mCk 11 p0 (f_X13_refused p0 (1 : Int32))) (fun r2 => mRt r2) else mBd (mGetA 11 3 p0) (fun r3 => mBd (mGetA 9 10 r3) (fun r4 => mBd (mLdI 1 r4 p1) (fun r5 => mBd (mCk 11 p0 (f_X13_good p0 r5)) (fun r6 => mRt r6)))))))
set_option maxRecDepth 100000 in
theorem s_X13_letField {cx : CX} (p0 : (Option Nat)) (p1 : Int32) : Sn cx m_X13_letField eI 0 [(0, vA p0), (1, vI p1)] [] (f_X13_letField p0 p1) := by
  refine sn_aload_n (y := m_X13_letField) (pc := 0) dX13_letField_0 rfl ?_
  refine sn_iconst (y := m_X13_letField) (pc := 1) dX13_letField_1 kc_iconst_0 ?_
  refine sn_putI (y := m_X13_letField) (pc := 2) ca_11 rfl fk_X13_46 (Or.inl rfl) rfl dX13_letField_2 ?_
  refine sn_aload_n (y := m_X13_letField) (pc := 5) dX13_letField_5 rfl ?_
  refine sn_iload_n (y := m_X13_letField) (pc := 6) dX13_letField_6 rfl ?_
  refine sn_invV (y := m_X13_letField) (pc := 7) ca_11 (av := [vI p1]) (o := p0) (st := []) dX13_letField_7 lk_X13_403 im_X13_isLet se_X13_isLet rfl rfl rfl rfl ⟨by decide, by decide⟩ (c_X13_isLet cx.1 p0 p1) (fun r1 => ?_)
  refine sn_if_eq (y := m_X13_letField) (pc := 10) (tgt := 29) dX13_letField_10 (by decide) (fun _ => ?_) (fun _ => ?_)
  · refine sn_aload_n (y := m_X13_letField) (pc := 29) dX13_letField_29 rfl ?_
    refine sn_iconst (y := m_X13_letField) (pc := 30) dX13_letField_30 kc_iconst_1 ?_
    refine sn_invV (y := m_X13_letField) (pc := 31) ca_11 (av := [vI (1 : Int32)]) (o := p0) (st := []) dX13_letField_31 lk_X13_52 im_X13_refused se_X13_refused rfl rfl rfl rfl ⟨by decide, by decide⟩ (c_X13_refused cx.1 p0 (1 : Int32)) (fun r2 => ?_)
    exact sn_ireturn rfl dX13_letField_34
  refine sn_aload_n (y := m_X13_letField) (pc := 13) dX13_letField_13 rfl ?_
  refine sn_aload_n (y := m_X13_letField) (pc := 14) dX13_letField_14 rfl ?_
  refine sn_getA (y := m_X13_letField) (pc := 15) ca_11 rfl fk_X13_369 (fun _ _ _ => rfl) dX13_letField_15 (fun r3 => ?_)
  refine sn_getA (y := m_X13_letField) (pc := 18) ca_9 rfl fk_X13_316 (fun _ _ _ => rfl) dX13_letField_18 (fun r4 => ?_)
  refine sn_iload_n (y := m_X13_letField) (pc := 21) dX13_letField_21 rfl ?_
  refine sn_iaload (y := m_X13_letField) (pc := 22) dX13_letField_22 (fun r5 => ?_)
  refine sn_invV (y := m_X13_letField) (pc := 23) ca_11 (av := [vI r5]) (o := p0) (st := []) dX13_letField_23 lk_X13_56 im_X13_good se_X13_good rfl rfl rfl rfl ⟨by decide, by decide⟩ (c_X13_good cx.1 p0 r5) (fun r6 => ?_)
  refine sn_goto (y := m_X13_letField) (pc := 26) (tgt := 34) dX13_letField_26 (by decide) ?_
  exact sn_ireturn rfl dX13_letField_34
set_option maxRecDepth 100000 in
theorem c_X13_letField (g : Gl) (p0 : (Option Nat)) (p1 : Int32) : Cn g m_X13_letField eI [vA p0, vI p1] (mCk 11 p0 (f_X13_letField p0 p1)) := cn_of_sn (by decide +kernel) rfl (fun r => ⟨r, rfl⟩) rfl (fun _ _ => sn_ck (s_X13_letField p0 p1))
/-! X13_letPart -/
def f_X13_letPart (p0 : (Option Nat)) (p1 : Int32) (p2 : Int32) : Mo Int32 :=
  mBd (mPutI 11 0 p0 (0 : Int32)) (fun _ => mBd (mCk 11 p0 (f_X13_isLet p0 p1)) (fun r1 => (if ¬ r1 = 0 then mBd (mCk 11 p0 (f_X13_fieldOf p0 p1)) (fun r2 => mBd (mCk 10 r2 (f_X12_isUnit r2 p2)) (fun r3 => (if ¬ r3 = 0 then mBd (mCk 11 p0 (f_X13_lets p0 p1 (0 : Int32))) (fun _ => mBd (mCk 11 p0 (f_X13_fieldOf p0 p1)) (fun r4 => mBd (mCk 11 p0 (f_X13_partOf p0 r4 (0 : Int32) p2)) (fun r5 => mBd (mCk 11 p0 (f_X13_good p0 r5)) (fun r6 => mRt r6)))) else mBd (mCk 11 p0 (f_X13_refused p0 (2 : Int32))) (fun r7 => mRt r7)))) else mBd (mCk 11 p0 (f_X13_refused p0 (1 : Int32))) (fun r8 => mRt r8))))
set_option maxRecDepth 100000 in
theorem s_X13_letPart {cx : CX} (p0 : (Option Nat)) (p1 : Int32) (p2 : Int32) : Sn cx m_X13_letPart eI 0 [(0, vA p0), (1, vI p1), (2, vI p2)] [] (f_X13_letPart p0 p1 p2) := by
  refine sn_aload_n (y := m_X13_letPart) (pc := 0) dX13_letPart_0 rfl ?_
  refine sn_iconst (y := m_X13_letPart) (pc := 1) dX13_letPart_1 kc_iconst_0 ?_
  refine sn_putI (y := m_X13_letPart) (pc := 2) ca_11 rfl fk_X13_46 (Or.inl rfl) rfl dX13_letPart_2 ?_
  refine sn_aload_n (y := m_X13_letPart) (pc := 5) dX13_letPart_5 rfl ?_
  refine sn_iload_n (y := m_X13_letPart) (pc := 6) dX13_letPart_6 rfl ?_
  refine sn_invV (y := m_X13_letPart) (pc := 7) ca_11 (av := [vI p1]) (o := p0) (st := []) dX13_letPart_7 lk_X13_403 im_X13_isLet se_X13_isLet rfl rfl rfl rfl ⟨by decide, by decide⟩ (c_X13_isLet cx.1 p0 p1) (fun r1 => ?_)
  refine sn_if_ne (y := m_X13_letPart) (pc := 10) (tgt := 19) dX13_letPart_10 (by decide) (fun _ => ?_) (fun _ => ?_)
  · refine sn_aload_n (y := m_X13_letPart) (pc := 19) dX13_letPart_19 rfl ?_
    refine sn_iload_n (y := m_X13_letPart) (pc := 20) dX13_letPart_20 rfl ?_
    refine sn_invV (y := m_X13_letPart) (pc := 21) ca_11 (av := [vI p1]) (o := p0) (st := []) dX13_letPart_21 lk_X13_406 im_X13_fieldOf se_X13_fieldOf rfl rfl rfl rfl ⟨by decide, by decide⟩ (c_X13_fieldOf cx.1 p0 p1) (fun r2 => ?_)
    refine sn_iload_n (y := m_X13_letPart) (pc := 24) dX13_letPart_24 rfl ?_
    refine sn_invV (y := m_X13_letPart) (pc := 25) ca_10 (av := [vI p2]) (o := r2) (st := []) dX13_letPart_25 lk_X13_347 im_X12_isUnit se_X12_isUnit rfl rfl rfl rfl ⟨by decide, by decide⟩ (c_X12_isUnit cx.1 r2 p2) (fun r3 => ?_)
    refine sn_if_ne (y := m_X13_letPart) (pc := 28) (tgt := 37) dX13_letPart_28 (by decide) (fun _ => ?_) (fun _ => ?_)
    · refine sn_aload_n (y := m_X13_letPart) (pc := 37) dX13_letPart_37 rfl ?_
      refine sn_iload_n (y := m_X13_letPart) (pc := 38) dX13_letPart_38 rfl ?_
      refine sn_iconst (y := m_X13_letPart) (pc := 39) dX13_letPart_39 kc_iconst_0 ?_
      refine sn_invV (y := m_X13_letPart) (pc := 40) ca_11 (av := [vI p1, vI (0 : Int32)]) (o := p0) (st := []) dX13_letPart_40 lk_X13_411 im_X13_lets se_X13_lets rfl rfl rfl rfl ⟨by decide, by decide⟩ (c_X13_lets cx.1 p0 p1 (0 : Int32)) (fun _ => ?_)
      refine sn_aload_n (y := m_X13_letPart) (pc := 43) dX13_letPart_43 rfl ?_
      refine sn_aload_n (y := m_X13_letPart) (pc := 44) dX13_letPart_44 rfl ?_
      refine sn_aload_n (y := m_X13_letPart) (pc := 45) dX13_letPart_45 rfl ?_
      refine sn_iload_n (y := m_X13_letPart) (pc := 46) dX13_letPart_46 rfl ?_
      refine sn_invV (y := m_X13_letPart) (pc := 47) ca_11 (av := [vI p1]) (o := p0) (st := [vA p0, vA p0]) dX13_letPart_47 lk_X13_406 im_X13_fieldOf se_X13_fieldOf rfl rfl rfl rfl ⟨by decide, by decide⟩ (c_X13_fieldOf cx.1 p0 p1) (fun r4 => ?_)
      refine sn_iconst (y := m_X13_letPart) (pc := 50) dX13_letPart_50 kc_iconst_0 ?_
      refine sn_iload_n (y := m_X13_letPart) (pc := 51) dX13_letPart_51 rfl ?_
      refine sn_invV (y := m_X13_letPart) (pc := 52) ca_11 (av := [vA r4, vI (0 : Int32), vI p2]) (o := p0) (st := [vA p0]) dX13_letPart_52 lk_X13_400 im_X13_partOf se_X13_partOf rfl rfl rfl rfl ⟨by decide, by decide⟩ (c_X13_partOf cx.1 p0 r4 (0 : Int32) p2) (fun r5 => ?_)
      refine sn_invV (y := m_X13_letPart) (pc := 55) ca_11 (av := [vI r5]) (o := p0) (st := []) dX13_letPart_55 lk_X13_56 im_X13_good se_X13_good rfl rfl rfl rfl ⟨by decide, by decide⟩ (c_X13_good cx.1 p0 r5) (fun r6 => ?_)
      exact sn_ireturn rfl dX13_letPart_58
    refine sn_aload_n (y := m_X13_letPart) (pc := 31) dX13_letPart_31 rfl ?_
    refine sn_iconst (y := m_X13_letPart) (pc := 32) dX13_letPart_32 kc_iconst_2 ?_
    refine sn_invV (y := m_X13_letPart) (pc := 33) ca_11 (av := [vI (2 : Int32)]) (o := p0) (st := []) dX13_letPart_33 lk_X13_52 im_X13_refused se_X13_refused rfl rfl rfl rfl ⟨by decide, by decide⟩ (c_X13_refused cx.1 p0 (2 : Int32)) (fun r7 => ?_)
    exact sn_ireturn rfl dX13_letPart_36
  refine sn_aload_n (y := m_X13_letPart) (pc := 13) dX13_letPart_13 rfl ?_
  refine sn_iconst (y := m_X13_letPart) (pc := 14) dX13_letPart_14 kc_iconst_1 ?_
  refine sn_invV (y := m_X13_letPart) (pc := 15) ca_11 (av := [vI (1 : Int32)]) (o := p0) (st := []) dX13_letPart_15 lk_X13_52 im_X13_refused se_X13_refused rfl rfl rfl rfl ⟨by decide, by decide⟩ (c_X13_refused cx.1 p0 (1 : Int32)) (fun r8 => ?_)
  exact sn_ireturn rfl dX13_letPart_18
set_option maxRecDepth 100000 in
theorem c_X13_letPart (g : Gl) (p0 : (Option Nat)) (p1 : Int32) (p2 : Int32) : Cn g m_X13_letPart eI [vA p0, vI p1, vI p2] (mCk 11 p0 (f_X13_letPart p0 p1 p2)) := cn_of_sn (by decide +kernel) rfl (fun r => ⟨r, rfl⟩) rfl (fun _ _ => sn_ck (s_X13_letPart p0 p1 p2))
/-! X13_whole -/
def f_X13_whole (p0 : (Option Nat)) (p1 : Int32) : Mo Int32 :=
  mBd (mPutI 11 0 p0 (0 : Int32)) (fun _ => mBd (mCk 11 p0 (f_X13_isLet p0 p1)) (fun r1 => (if ¬ r1 = 0 then mBd (mCk 11 p0 (f_X13_lets p0 p1 (0 : Int32))) (fun _ => mBd (mCk 11 p0 (f_X13_isWhole p0 (0 : Int32))) (fun r2 => (if r2 = 0 then mBd (mCk 11 p0 (f_X13_good p0 (0 : Int32))) (fun r3 => mRt r3) else mBd (mCk 11 p0 (f_X13_good p0 (1 : Int32))) (fun r4 => mRt r4)))) else mBd (mCk 11 p0 (f_X13_refused p0 (1 : Int32))) (fun r5 => mRt r5))))
set_option maxRecDepth 100000 in
theorem s_X13_whole {cx : CX} (p0 : (Option Nat)) (p1 : Int32) : Sn cx m_X13_whole eI 0 [(0, vA p0), (1, vI p1)] [] (f_X13_whole p0 p1) := by
  refine sn_aload_n (y := m_X13_whole) (pc := 0) dX13_whole_0 rfl ?_
  refine sn_iconst (y := m_X13_whole) (pc := 1) dX13_whole_1 kc_iconst_0 ?_
  refine sn_putI (y := m_X13_whole) (pc := 2) ca_11 rfl fk_X13_46 (Or.inl rfl) rfl dX13_whole_2 ?_
  refine sn_aload_n (y := m_X13_whole) (pc := 5) dX13_whole_5 rfl ?_
  refine sn_iload_n (y := m_X13_whole) (pc := 6) dX13_whole_6 rfl ?_
  refine sn_invV (y := m_X13_whole) (pc := 7) ca_11 (av := [vI p1]) (o := p0) (st := []) dX13_whole_7 lk_X13_403 im_X13_isLet se_X13_isLet rfl rfl rfl rfl ⟨by decide, by decide⟩ (c_X13_isLet cx.1 p0 p1) (fun r1 => ?_)
  refine sn_if_ne (y := m_X13_whole) (pc := 10) (tgt := 19) dX13_whole_10 (by decide) (fun _ => ?_) (fun _ => ?_)
  · refine sn_aload_n (y := m_X13_whole) (pc := 19) dX13_whole_19 rfl ?_
    refine sn_iload_n (y := m_X13_whole) (pc := 20) dX13_whole_20 rfl ?_
    refine sn_iconst (y := m_X13_whole) (pc := 21) dX13_whole_21 kc_iconst_0 ?_
    refine sn_invV (y := m_X13_whole) (pc := 22) ca_11 (av := [vI p1, vI (0 : Int32)]) (o := p0) (st := []) dX13_whole_22 lk_X13_411 im_X13_lets se_X13_lets rfl rfl rfl rfl ⟨by decide, by decide⟩ (c_X13_lets cx.1 p0 p1 (0 : Int32)) (fun _ => ?_)
    refine sn_aload_n (y := m_X13_whole) (pc := 25) dX13_whole_25 rfl ?_
    refine sn_aload_n (y := m_X13_whole) (pc := 26) dX13_whole_26 rfl ?_
    refine sn_iconst (y := m_X13_whole) (pc := 27) dX13_whole_27 kc_iconst_0 ?_
    refine sn_invV (y := m_X13_whole) (pc := 28) ca_11 (av := [vI (0 : Int32)]) (o := p0) (st := [vA p0]) dX13_whole_28 lk_X13_394 im_X13_isWhole se_X13_isWhole rfl rfl rfl rfl ⟨by decide, by decide⟩ (c_X13_isWhole cx.1 p0 (0 : Int32)) (fun r2 => ?_)
    refine sn_if_eq (y := m_X13_whole) (pc := 31) (tgt := 38) dX13_whole_31 (by decide) (fun _ => ?_) (fun _ => ?_)
    · refine sn_iconst (y := m_X13_whole) (pc := 38) dX13_whole_38 kc_iconst_0 ?_
      refine sn_invV (y := m_X13_whole) (pc := 39) ca_11 (av := [vI (0 : Int32)]) (o := p0) (st := []) dX13_whole_39 lk_X13_56 im_X13_good se_X13_good rfl rfl rfl rfl ⟨by decide, by decide⟩ (c_X13_good cx.1 p0 (0 : Int32)) (fun r3 => ?_)
      exact sn_ireturn rfl dX13_whole_42
    refine sn_iconst (y := m_X13_whole) (pc := 34) dX13_whole_34 kc_iconst_1 ?_
    refine sn_goto (y := m_X13_whole) (pc := 35) (tgt := 39) dX13_whole_35 (by decide) ?_
    refine sn_invV (y := m_X13_whole) (pc := 39) ca_11 (av := [vI (1 : Int32)]) (o := p0) (st := []) dX13_whole_39 lk_X13_56 im_X13_good se_X13_good rfl rfl rfl rfl ⟨by decide, by decide⟩ (c_X13_good cx.1 p0 (1 : Int32)) (fun r4 => ?_)
    exact sn_ireturn rfl dX13_whole_42
  refine sn_aload_n (y := m_X13_whole) (pc := 13) dX13_whole_13 rfl ?_
  refine sn_iconst (y := m_X13_whole) (pc := 14) dX13_whole_14 kc_iconst_1 ?_
  refine sn_invV (y := m_X13_whole) (pc := 15) ca_11 (av := [vI (1 : Int32)]) (o := p0) (st := []) dX13_whole_15 lk_X13_52 im_X13_refused se_X13_refused rfl rfl rfl rfl ⟨by decide, by decide⟩ (c_X13_refused cx.1 p0 (1 : Int32)) (fun r5 => ?_)
  exact sn_ireturn rfl dX13_whole_18
set_option maxRecDepth 100000 in
theorem c_X13_whole (g : Gl) (p0 : (Option Nat)) (p1 : Int32) : Cn g m_X13_whole eI [vA p0, vI p1] (mCk 11 p0 (f_X13_whole p0 p1)) := cn_of_sn (by decide +kernel) rfl (fun r => ⟨r, rfl⟩) rfl (fun _ _ => sn_ck (s_X13_whole p0 p1))
/-! X13_counts -/
def f_X13_counts_b179 (k51 : Int32 → Mo Unit) (x0 : (Option Nat)) (x1 : Int32) (x2 : Int32) (x3 : Int32) (k179 : Int32 → Mo Unit) (x4 : Int32) : Mo Unit :=
  (if x4 ≥ x2 then k51 (x3 + 1) else mBd (mGetA 11 21 x0) (fun r11 => mBd (mGetA 11 22 x0) (fun r12 => mBd (mLdI 1 r12 x4) (fun r13 => mBd (mStI r11 x4 r13) (fun _ => k179 (x4 + 1))))))
def f_X13_counts_l179 (k51 : Int32 → Mo Unit) (x0 : (Option Nat)) (x1 : Int32) (x2 : Int32) (x3 : Int32) : Int32 → Mo Unit := lq1 (f_X13_counts_b179 k51 x0 x1 x2 x3) fuel
set_option maxRecDepth 100000 in
theorem s_X13_counts_b179 {cx : CX} {k51 : Int32 → Mo Unit} (x0 : (Option Nat)) (x1 : Int32) (x2 : Int32) (x3 : Int32) (hk51 : ∀ (z3 : Int32), Sn cx m_X13_counts eV 51 [(3, vI z3), (0, vA x0), (1, vI x1), (2, vI x2)] [] (k51 z3)) {k179 : Int32 → Mo Unit} (hk179 : ∀ (z4 : Int32), Sn cx m_X13_counts eV 179 [(4, vI z4), (0, vA x0), (1, vI x1), (2, vI x2), (3, vI x3)] [] (k179 z4)) (x4 : Int32) : Sn cx m_X13_counts eV 179 [(4, vI x4), (0, vA x0), (1, vI x1), (2, vI x2), (3, vI x3)] [] (f_X13_counts_b179 k51 x0 x1 x2 x3 k179 x4) := by
  refine sn_iload (y := m_X13_counts) (pc := 179) dX13_counts_179 rfl ?_
  refine sn_iload_n (y := m_X13_counts) (pc := 181) dX13_counts_181 rfl ?_
  refine sn_icmp_ge (y := m_X13_counts) (pc := 182) (tgt := 205) dX13_counts_182 (by decide) (fun _ => ?_) (fun _ => ?_)
  · refine sn_iinc (y := m_X13_counts) (pc := 205) (v := x3 + 1) dX13_counts_205 rfl (by rfl) rfl ?_
    refine sn_goto (y := m_X13_counts) (pc := 208) (tgt := 51) dX13_counts_208 (by decide) ?_
    exact sn_sub rfl (hk51 (x3 + 1))
  refine sn_aload_n (y := m_X13_counts) (pc := 185) dX13_counts_185 rfl ?_
  refine sn_getA (y := m_X13_counts) (pc := 186) ca_11 rfl fk_X13_24 (fun _ _ _ => rfl) dX13_counts_186 (fun r11 => ?_)
  refine sn_iload (y := m_X13_counts) (pc := 189) dX13_counts_189 rfl ?_
  refine sn_aload_n (y := m_X13_counts) (pc := 191) dX13_counts_191 rfl ?_
  refine sn_getA (y := m_X13_counts) (pc := 192) ca_11 rfl fk_X13_28 (fun _ _ _ => rfl) dX13_counts_192 (fun r12 => ?_)
  refine sn_iload (y := m_X13_counts) (pc := 195) dX13_counts_195 rfl ?_
  refine sn_iaload (y := m_X13_counts) (pc := 197) dX13_counts_197 (fun r13 => ?_)
  refine sn_iastore (y := m_X13_counts) (pc := 198) dX13_counts_198 ?_
  refine sn_iinc (y := m_X13_counts) (pc := 199) (v := x4 + 1) dX13_counts_199 rfl (by rfl) rfl ?_
  refine sn_goto (y := m_X13_counts) (pc := 202) (tgt := 179) dX13_counts_202 (by decide) ?_
  exact sn_sub rfl (hk179 (x4 + 1))
set_option maxRecDepth 100000 in
theorem s_X13_counts_l179 {cx : CX} {k51 : Int32 → Mo Unit} (x0 : (Option Nat)) (x1 : Int32) (x2 : Int32) (x3 : Int32) (hk51 : ∀ (z3 : Int32), Sn cx m_X13_counts eV 51 [(3, vI z3), (0, vA x0), (1, vI x1), (2, vI x2)] [] (k51 z3)) (x4 : Int32) : Sn cx m_X13_counts eV 179 [(4, vI x4), (0, vA x0), (1, vI x1), (2, vI x2), (3, vI x3)] [] (f_X13_counts_l179 k51 x0 x1 x2 x3 x4) :=
  sn_lq1 (L := fun x4 => [(4, vI x4), (0, vA x0), (1, vI x1), (2, vI x2), (3, vI x3)]) (fun k hk x4 => s_X13_counts_b179 x0 x1 x2 x3 hk51 hk x4) fuel x4
def f_X13_counts_b136 (k51 : Int32 → Mo Unit) (k90 : Int32 → Mo Unit) (x0 : (Option Nat)) (x1 : Int32) (x2 : Int32) (x3 : Int32) (x4 : Int32) (x5 : Int32) (k136 : Int32 → Mo Unit) (x6 : Int32) : Mo Unit :=
  (if x6 ≥ x2 then k90 (x4 + 1) else mBd (mGetA 11 22 x0) (fun r22 => mRq (¬ x2 = 0) (mBd (mLdI 1 r22 (irem (x6 + x5) x2)) (fun r23 => mBd (mGetA 11 21 x0) (fun r24 => mBd (mLdI 1 r24 x6) (fun r25 => mBd (mStI r22 (irem (x6 + x5) x2) (r23 + r25)) (fun _ => k136 (x6 + 1))))))))
def f_X13_counts_l136 (k51 : Int32 → Mo Unit) (k90 : Int32 → Mo Unit) (x0 : (Option Nat)) (x1 : Int32) (x2 : Int32) (x3 : Int32) (x4 : Int32) (x5 : Int32) : Int32 → Mo Unit := lq1 (f_X13_counts_b136 k51 k90 x0 x1 x2 x3 x4 x5) fuel
set_option maxRecDepth 100000 in
theorem s_X13_counts_b136 {cx : CX} {k51 : Int32 → Mo Unit} {k90 : Int32 → Mo Unit} (x0 : (Option Nat)) (x1 : Int32) (x2 : Int32) (x3 : Int32) (x4 : Int32) (x5 : Int32) (hk51 : ∀ (z3 : Int32), Sn cx m_X13_counts eV 51 [(3, vI z3), (0, vA x0), (1, vI x1), (2, vI x2)] [] (k51 z3)) (hk90 : ∀ (z4 : Int32), Sn cx m_X13_counts eV 90 [(4, vI z4), (0, vA x0), (1, vI x1), (2, vI x2), (3, vI x3)] [] (k90 z4)) {k136 : Int32 → Mo Unit} (hk136 : ∀ (z6 : Int32), Sn cx m_X13_counts eV 136 [(6, vI z6), (0, vA x0), (1, vI x1), (2, vI x2), (3, vI x3), (4, vI x4), (5, vI x5)] [] (k136 z6)) (x6 : Int32) : Sn cx m_X13_counts eV 136 [(6, vI x6), (0, vA x0), (1, vI x1), (2, vI x2), (3, vI x3), (4, vI x4), (5, vI x5)] [] (f_X13_counts_b136 k51 k90 x0 x1 x2 x3 x4 x5 k136 x6) := by
  refine sn_iload (y := m_X13_counts) (pc := 136) dX13_counts_136 rfl ?_
  refine sn_iload_n (y := m_X13_counts) (pc := 138) dX13_counts_138 rfl ?_
  refine sn_icmp_ge (y := m_X13_counts) (pc := 139) (tgt := 170) dX13_counts_139 (by decide) (fun _ => ?_) (fun _ => ?_)
  · refine sn_iinc (y := m_X13_counts) (pc := 170) (v := x4 + 1) dX13_counts_170 rfl (by rfl) rfl ?_
    refine sn_goto (y := m_X13_counts) (pc := 173) (tgt := 90) dX13_counts_173 (by decide) ?_
    exact sn_sub rfl (hk90 (x4 + 1))
  refine sn_aload_n (y := m_X13_counts) (pc := 142) dX13_counts_142 rfl ?_
  refine sn_getA (y := m_X13_counts) (pc := 143) ca_11 rfl fk_X13_28 (fun _ _ _ => rfl) dX13_counts_143 (fun r22 => ?_)
  refine sn_iload (y := m_X13_counts) (pc := 146) dX13_counts_146 rfl ?_
  refine sn_iload (y := m_X13_counts) (pc := 148) dX13_counts_148 rfl ?_
  refine sn_iadd (y := m_X13_counts) (pc := 150) dX13_counts_150 ?_
  refine sn_iload_n (y := m_X13_counts) (pc := 151) dX13_counts_151 rfl ?_
  refine sn_irem (y := m_X13_counts) (pc := 152) dX13_counts_152 ?_
  refine sn_dup2 (y := m_X13_counts) (pc := 153) rfl rfl dX13_counts_153 ?_
  refine sn_iaload (y := m_X13_counts) (pc := 154) dX13_counts_154 (fun r23 => ?_)
  refine sn_aload_n (y := m_X13_counts) (pc := 155) dX13_counts_155 rfl ?_
  refine sn_getA (y := m_X13_counts) (pc := 156) ca_11 rfl fk_X13_24 (fun _ _ _ => rfl) dX13_counts_156 (fun r24 => ?_)
  refine sn_iload (y := m_X13_counts) (pc := 159) dX13_counts_159 rfl ?_
  refine sn_iaload (y := m_X13_counts) (pc := 161) dX13_counts_161 (fun r25 => ?_)
  refine sn_iadd (y := m_X13_counts) (pc := 162) dX13_counts_162 ?_
  refine sn_iastore (y := m_X13_counts) (pc := 163) dX13_counts_163 ?_
  refine sn_iinc (y := m_X13_counts) (pc := 164) (v := x6 + 1) dX13_counts_164 rfl (by rfl) rfl ?_
  refine sn_goto (y := m_X13_counts) (pc := 167) (tgt := 136) dX13_counts_167 (by decide) ?_
  exact sn_sub rfl (hk136 (x6 + 1))
set_option maxRecDepth 100000 in
theorem s_X13_counts_l136 {cx : CX} {k51 : Int32 → Mo Unit} {k90 : Int32 → Mo Unit} (x0 : (Option Nat)) (x1 : Int32) (x2 : Int32) (x3 : Int32) (x4 : Int32) (x5 : Int32) (hk51 : ∀ (z3 : Int32), Sn cx m_X13_counts eV 51 [(3, vI z3), (0, vA x0), (1, vI x1), (2, vI x2)] [] (k51 z3)) (hk90 : ∀ (z4 : Int32), Sn cx m_X13_counts eV 90 [(4, vI z4), (0, vA x0), (1, vI x1), (2, vI x2), (3, vI x3)] [] (k90 z4)) (x6 : Int32) : Sn cx m_X13_counts eV 136 [(6, vI x6), (0, vA x0), (1, vI x1), (2, vI x2), (3, vI x3), (4, vI x4), (5, vI x5)] [] (f_X13_counts_l136 k51 k90 x0 x1 x2 x3 x4 x5 x6) :=
  sn_lq1 (L := fun x6 => [(6, vI x6), (0, vA x0), (1, vI x1), (2, vI x2), (3, vI x3), (4, vI x4), (5, vI x5)]) (fun k hk x6 => s_X13_counts_b136 x0 x1 x2 x3 x4 x5 hk51 hk90 hk x6) fuel x6
def f_X13_counts_b90 (k51 : Int32 → Mo Unit) (x0 : (Option Nat)) (x1 : Int32) (x2 : Int32) (x3 : Int32) (k90 : Int32 → Mo Unit) (x4 : Int32) : Mo Unit :=
  (if x4 ≥ x2 then f_X13_counts_l179 k51 x0 x1 x2 x3 (0 : Int32) else mBd (mGetA 11 3 x0) (fun r14 => mBd (mGetA 9 8 r14) (fun r15 => mBd (mLdI 1 r15 (((3 : Int32) * x1) + x3)) (fun r16 => mBd (mGetA 11 3 x0) (fun r17 => mBd (mGetA 9 9 r17) (fun r18 => mBd (mLdI 1 r18 (((3 : Int32) * x1) + x3)) (fun r19 => mBd (f_X13_raised x4 r19 x2) (fun r20 => mRq (¬ x2 = 0) (mNm (irem (r16 * r20) x2) (fun n21 => f_X13_counts_l136 k51 k90 x0 x1 x2 x3 x4 n21 (0 : Int32)))))))))))
def f_X13_counts_l90 (k51 : Int32 → Mo Unit) (x0 : (Option Nat)) (x1 : Int32) (x2 : Int32) (x3 : Int32) : Int32 → Mo Unit := lq1 (f_X13_counts_b90 k51 x0 x1 x2 x3) fuel
set_option maxRecDepth 100000 in
theorem s_X13_counts_b90 {cx : CX} {k51 : Int32 → Mo Unit} (x0 : (Option Nat)) (x1 : Int32) (x2 : Int32) (x3 : Int32) (hk51 : ∀ (z3 : Int32), Sn cx m_X13_counts eV 51 [(3, vI z3), (0, vA x0), (1, vI x1), (2, vI x2)] [] (k51 z3)) {k90 : Int32 → Mo Unit} (hk90 : ∀ (z4 : Int32), Sn cx m_X13_counts eV 90 [(4, vI z4), (0, vA x0), (1, vI x1), (2, vI x2), (3, vI x3)] [] (k90 z4)) (x4 : Int32) : Sn cx m_X13_counts eV 90 [(4, vI x4), (0, vA x0), (1, vI x1), (2, vI x2), (3, vI x3)] [] (f_X13_counts_b90 k51 x0 x1 x2 x3 k90 x4) := by
  refine sn_iload (y := m_X13_counts) (pc := 90) dX13_counts_90 rfl ?_
  refine sn_iload_n (y := m_X13_counts) (pc := 92) dX13_counts_92 rfl ?_
  refine sn_icmp_ge (y := m_X13_counts) (pc := 93) (tgt := 176) dX13_counts_93 (by decide) (fun _ => ?_) (fun _ => ?_)
  · refine sn_iconst (y := m_X13_counts) (pc := 176) dX13_counts_176 kc_iconst_0 ?_
    refine sn_istore (y := m_X13_counts) (pc := 177) dX13_counts_177 rfl ?_
    exact sn_sub rfl (s_X13_counts_l179 x0 x1 x2 x3 hk51 (0 : Int32))
  refine sn_aload_n (y := m_X13_counts) (pc := 96) dX13_counts_96 rfl ?_
  refine sn_getA (y := m_X13_counts) (pc := 97) ca_11 rfl fk_X13_369 (fun _ _ _ => rfl) dX13_counts_97 (fun r14 => ?_)
  refine sn_getA (y := m_X13_counts) (pc := 100) ca_9 rfl fk_X13_276 (fun _ _ _ => rfl) dX13_counts_100 (fun r15 => ?_)
  refine sn_iconst (y := m_X13_counts) (pc := 103) dX13_counts_103 kc_iconst_3 ?_
  refine sn_iload_n (y := m_X13_counts) (pc := 104) dX13_counts_104 rfl ?_
  refine sn_imul (y := m_X13_counts) (pc := 105) dX13_counts_105 ?_
  refine sn_iload_n (y := m_X13_counts) (pc := 106) dX13_counts_106 rfl ?_
  refine sn_iadd (y := m_X13_counts) (pc := 107) dX13_counts_107 ?_
  refine sn_iaload (y := m_X13_counts) (pc := 108) dX13_counts_108 (fun r16 => ?_)
  refine sn_iload (y := m_X13_counts) (pc := 109) dX13_counts_109 rfl ?_
  refine sn_aload_n (y := m_X13_counts) (pc := 111) dX13_counts_111 rfl ?_
  refine sn_getA (y := m_X13_counts) (pc := 112) ca_11 rfl fk_X13_369 (fun _ _ _ => rfl) dX13_counts_112 (fun r17 => ?_)
  refine sn_getA (y := m_X13_counts) (pc := 115) ca_9 rfl fk_X13_279 (fun _ _ _ => rfl) dX13_counts_115 (fun r18 => ?_)
  refine sn_iconst (y := m_X13_counts) (pc := 118) dX13_counts_118 kc_iconst_3 ?_
  refine sn_iload_n (y := m_X13_counts) (pc := 119) dX13_counts_119 rfl ?_
  refine sn_imul (y := m_X13_counts) (pc := 120) dX13_counts_120 ?_
  refine sn_iload_n (y := m_X13_counts) (pc := 121) dX13_counts_121 rfl ?_
  refine sn_iadd (y := m_X13_counts) (pc := 122) dX13_counts_122 ?_
  refine sn_iaload (y := m_X13_counts) (pc := 123) dX13_counts_123 (fun r19 => ?_)
  refine sn_iload_n (y := m_X13_counts) (pc := 124) dX13_counts_124 rfl ?_
  refine sn_invS (y := m_X13_counts) (pc := 125) (av := [vI x4, vI r19, vI x2]) (st := [vI r16]) dX13_counts_125 lk_X13_94 sw_X13_raised rfl rfl rfl ⟨by decide, by decide⟩ (c_X13_raised cx.1 x4 r19 x2) (fun r20 => ?_)
  refine sn_imul (y := m_X13_counts) (pc := 128) dX13_counts_128 ?_
  refine sn_iload_n (y := m_X13_counts) (pc := 129) dX13_counts_129 rfl ?_
  refine sn_irem (y := m_X13_counts) (pc := 130) dX13_counts_130 ?_
  refine sn_istoreM (y := m_X13_counts) (pc := 131) dX13_counts_131 rfl (fun n21 => ?_)
  refine sn_iconst (y := m_X13_counts) (pc := 133) dX13_counts_133 kc_iconst_0 ?_
  refine sn_istore (y := m_X13_counts) (pc := 134) dX13_counts_134 rfl ?_
  exact sn_sub rfl (s_X13_counts_l136 x0 x1 x2 x3 x4 n21 hk51 hk90 (0 : Int32))
set_option maxRecDepth 100000 in
theorem s_X13_counts_l90 {cx : CX} {k51 : Int32 → Mo Unit} (x0 : (Option Nat)) (x1 : Int32) (x2 : Int32) (x3 : Int32) (hk51 : ∀ (z3 : Int32), Sn cx m_X13_counts eV 51 [(3, vI z3), (0, vA x0), (1, vI x1), (2, vI x2)] [] (k51 z3)) (x4 : Int32) : Sn cx m_X13_counts eV 90 [(4, vI x4), (0, vA x0), (1, vI x1), (2, vI x2), (3, vI x3)] [] (f_X13_counts_l90 k51 x0 x1 x2 x3 x4) :=
  sn_lq1 (L := fun x4 => [(4, vI x4), (0, vA x0), (1, vI x1), (2, vI x2), (3, vI x3)]) (fun k hk x4 => s_X13_counts_b90 x0 x1 x2 x3 hk51 hk x4) fuel x4
def f_X13_counts_b67 (k51 : Int32 → Mo Unit) (x0 : (Option Nat)) (x1 : Int32) (x2 : Int32) (x3 : Int32) (k67 : Int32 → Mo Unit) (x4 : Int32) : Mo Unit :=
  (if x4 ≥ x2 then f_X13_counts_l90 k51 x0 x1 x2 x3 (0 : Int32) else mBd (mGetA 11 22 x0) (fun r26 => mBd (mStI r26 x4 (0 : Int32)) (fun _ => k67 (x4 + 1))))
def f_X13_counts_l67 (k51 : Int32 → Mo Unit) (x0 : (Option Nat)) (x1 : Int32) (x2 : Int32) (x3 : Int32) : Int32 → Mo Unit := lq1 (f_X13_counts_b67 k51 x0 x1 x2 x3) fuel
set_option maxRecDepth 100000 in
theorem s_X13_counts_b67 {cx : CX} {k51 : Int32 → Mo Unit} (x0 : (Option Nat)) (x1 : Int32) (x2 : Int32) (x3 : Int32) (hk51 : ∀ (z3 : Int32), Sn cx m_X13_counts eV 51 [(3, vI z3), (0, vA x0), (1, vI x1), (2, vI x2)] [] (k51 z3)) {k67 : Int32 → Mo Unit} (hk67 : ∀ (z4 : Int32), Sn cx m_X13_counts eV 67 [(4, vI z4), (0, vA x0), (1, vI x1), (2, vI x2), (3, vI x3)] [] (k67 z4)) (x4 : Int32) : Sn cx m_X13_counts eV 67 [(4, vI x4), (0, vA x0), (1, vI x1), (2, vI x2), (3, vI x3)] [] (f_X13_counts_b67 k51 x0 x1 x2 x3 k67 x4) := by
  refine sn_iload (y := m_X13_counts) (pc := 67) dX13_counts_67 rfl ?_
  refine sn_iload_n (y := m_X13_counts) (pc := 69) dX13_counts_69 rfl ?_
  refine sn_icmp_ge (y := m_X13_counts) (pc := 70) (tgt := 87) dX13_counts_70 (by decide) (fun _ => ?_) (fun _ => ?_)
  · refine sn_iconst (y := m_X13_counts) (pc := 87) dX13_counts_87 kc_iconst_0 ?_
    refine sn_istore (y := m_X13_counts) (pc := 88) dX13_counts_88 rfl ?_
    exact sn_sub rfl (s_X13_counts_l90 x0 x1 x2 x3 hk51 (0 : Int32))
  refine sn_aload_n (y := m_X13_counts) (pc := 73) dX13_counts_73 rfl ?_
  refine sn_getA (y := m_X13_counts) (pc := 74) ca_11 rfl fk_X13_28 (fun _ _ _ => rfl) dX13_counts_74 (fun r26 => ?_)
  refine sn_iload (y := m_X13_counts) (pc := 77) dX13_counts_77 rfl ?_
  refine sn_iconst (y := m_X13_counts) (pc := 79) dX13_counts_79 kc_iconst_0 ?_
  refine sn_iastore (y := m_X13_counts) (pc := 80) dX13_counts_80 ?_
  refine sn_iinc (y := m_X13_counts) (pc := 81) (v := x4 + 1) dX13_counts_81 rfl (by rfl) rfl ?_
  refine sn_goto (y := m_X13_counts) (pc := 84) (tgt := 67) dX13_counts_84 (by decide) ?_
  exact sn_sub rfl (hk67 (x4 + 1))
set_option maxRecDepth 100000 in
theorem s_X13_counts_l67 {cx : CX} {k51 : Int32 → Mo Unit} (x0 : (Option Nat)) (x1 : Int32) (x2 : Int32) (x3 : Int32) (hk51 : ∀ (z3 : Int32), Sn cx m_X13_counts eV 51 [(3, vI z3), (0, vA x0), (1, vI x1), (2, vI x2)] [] (k51 z3)) (x4 : Int32) : Sn cx m_X13_counts eV 67 [(4, vI x4), (0, vA x0), (1, vI x1), (2, vI x2), (3, vI x3)] [] (f_X13_counts_l67 k51 x0 x1 x2 x3 x4) :=
  sn_lq1 (L := fun x4 => [(4, vI x4), (0, vA x0), (1, vI x1), (2, vI x2), (3, vI x3)]) (fun k hk x4 => s_X13_counts_b67 x0 x1 x2 x3 hk51 hk x4) fuel x4
def f_X13_counts_b51 (x0 : (Option Nat)) (x1 : Int32) (x2 : Int32) (k51 : Int32 → Mo Unit) (x3 : Int32) : Mo Unit :=
  mBd (mGetA 11 3 x0) (fun r8 => mBd (mGetA 9 6 r8) (fun r9 => mBd (mLdI 1 r9 x1) (fun r10 => (if x3 ≥ r10 then mRt () else f_X13_counts_l67 k51 x0 x1 x2 x3 (0 : Int32)))))
def f_X13_counts_l51 (x0 : (Option Nat)) (x1 : Int32) (x2 : Int32) : Int32 → Mo Unit := lq1 (f_X13_counts_b51 x0 x1 x2) fuel
set_option maxRecDepth 100000 in
theorem s_X13_counts_b51 {cx : CX} (x0 : (Option Nat)) (x1 : Int32) (x2 : Int32) {k51 : Int32 → Mo Unit} (hk51 : ∀ (z3 : Int32), Sn cx m_X13_counts eV 51 [(3, vI z3), (0, vA x0), (1, vI x1), (2, vI x2)] [] (k51 z3)) (x3 : Int32) : Sn cx m_X13_counts eV 51 [(3, vI x3), (0, vA x0), (1, vI x1), (2, vI x2)] [] (f_X13_counts_b51 x0 x1 x2 k51 x3) := by
  refine sn_iload_n (y := m_X13_counts) (pc := 51) dX13_counts_51 rfl ?_
  refine sn_aload_n (y := m_X13_counts) (pc := 52) dX13_counts_52 rfl ?_
  refine sn_getA (y := m_X13_counts) (pc := 53) ca_11 rfl fk_X13_369 (fun _ _ _ => rfl) dX13_counts_53 (fun r8 => ?_)
  refine sn_getA (y := m_X13_counts) (pc := 56) ca_9 rfl fk_X13_285 (fun _ _ _ => rfl) dX13_counts_56 (fun r9 => ?_)
  refine sn_iload_n (y := m_X13_counts) (pc := 59) dX13_counts_59 rfl ?_
  refine sn_iaload (y := m_X13_counts) (pc := 60) dX13_counts_60 (fun r10 => ?_)
  refine sn_icmp_ge (y := m_X13_counts) (pc := 61) (tgt := 211) dX13_counts_61 (by decide) (fun _ => ?_) (fun _ => ?_)
  · exact sn_return rfl dX13_counts_211
  refine sn_iconst (y := m_X13_counts) (pc := 64) dX13_counts_64 kc_iconst_0 ?_
  refine sn_istore (y := m_X13_counts) (pc := 65) dX13_counts_65 rfl ?_
  exact sn_sub rfl (s_X13_counts_l67 x0 x1 x2 x3 hk51 (0 : Int32))
set_option maxRecDepth 100000 in
theorem s_X13_counts_l51 {cx : CX} (x0 : (Option Nat)) (x1 : Int32) (x2 : Int32) (x3 : Int32) : Sn cx m_X13_counts eV 51 [(3, vI x3), (0, vA x0), (1, vI x1), (2, vI x2)] [] (f_X13_counts_l51 x0 x1 x2 x3) :=
  sn_lq1 (L := fun x3 => [(3, vI x3), (0, vA x0), (1, vI x1), (2, vI x2)]) (fun k hk x3 => s_X13_counts_b51 x0 x1 x2 hk x3) fuel x3
def f_X13_counts_b23 (x0 : (Option Nat)) (x1 : Int32) (x2 : Int32) (k23 : Int32 → Mo Unit) (x3 : Int32) : Mo Unit :=
  (if x3 ≥ x2 then f_X13_counts_l51 x0 x1 x2 (0 : Int32) else mBd (mGetA 11 21 x0) (fun r27 => (if ¬ x3 = 0 then mBd (mStI r27 x3 (0 : Int32)) (fun _ => k23 (x3 + 1)) else mBd (mStI r27 x3 (1 : Int32)) (fun _ => k23 (x3 + 1)))))
def f_X13_counts_l23 (x0 : (Option Nat)) (x1 : Int32) (x2 : Int32) : Int32 → Mo Unit := lq1 (f_X13_counts_b23 x0 x1 x2) fuel
set_option maxRecDepth 100000 in
theorem s_X13_counts_b23 {cx : CX} (x0 : (Option Nat)) (x1 : Int32) (x2 : Int32) {k23 : Int32 → Mo Unit} (hk23 : ∀ (z3 : Int32), Sn cx m_X13_counts eV 23 [(3, vI z3), (0, vA x0), (1, vI x1), (2, vI x2)] [] (k23 z3)) (x3 : Int32) : Sn cx m_X13_counts eV 23 [(3, vI x3), (0, vA x0), (1, vI x1), (2, vI x2)] [] (f_X13_counts_b23 x0 x1 x2 k23 x3) := by
  refine sn_iload_n (y := m_X13_counts) (pc := 23) dX13_counts_23 rfl ?_
  refine sn_iload_n (y := m_X13_counts) (pc := 24) dX13_counts_24 rfl ?_
  refine sn_icmp_ge (y := m_X13_counts) (pc := 25) (tgt := 49) dX13_counts_25 (by decide) (fun _ => ?_) (fun _ => ?_)
  · refine sn_iconst (y := m_X13_counts) (pc := 49) dX13_counts_49 kc_iconst_0 ?_
    refine sn_istore_n (y := m_X13_counts) (pc := 50) dX13_counts_50 rfl ?_
    exact sn_sub rfl (s_X13_counts_l51 x0 x1 x2 (0 : Int32))
  refine sn_aload_n (y := m_X13_counts) (pc := 28) dX13_counts_28 rfl ?_
  refine sn_getA (y := m_X13_counts) (pc := 29) ca_11 rfl fk_X13_24 (fun _ _ _ => rfl) dX13_counts_29 (fun r27 => ?_)
  refine sn_iload_n (y := m_X13_counts) (pc := 32) dX13_counts_32 rfl ?_
  refine sn_iload_n (y := m_X13_counts) (pc := 33) dX13_counts_33 rfl ?_
  refine sn_if_ne (y := m_X13_counts) (pc := 34) (tgt := 41) dX13_counts_34 (by decide) (fun _ => ?_) (fun _ => ?_)
  · refine sn_iconst (y := m_X13_counts) (pc := 41) dX13_counts_41 kc_iconst_0 ?_
    refine sn_iastore (y := m_X13_counts) (pc := 42) dX13_counts_42 ?_
    refine sn_iinc (y := m_X13_counts) (pc := 43) (v := x3 + 1) dX13_counts_43 rfl (by rfl) rfl ?_
    refine sn_goto (y := m_X13_counts) (pc := 46) (tgt := 23) dX13_counts_46 (by decide) ?_
    exact sn_sub rfl (hk23 (x3 + 1))
  refine sn_iconst (y := m_X13_counts) (pc := 37) dX13_counts_37 kc_iconst_1 ?_
  refine sn_goto (y := m_X13_counts) (pc := 38) (tgt := 42) dX13_counts_38 (by decide) ?_
  refine sn_iastore (y := m_X13_counts) (pc := 42) dX13_counts_42 ?_
  refine sn_iinc (y := m_X13_counts) (pc := 43) (v := x3 + 1) dX13_counts_43 rfl (by rfl) rfl ?_
  refine sn_goto (y := m_X13_counts) (pc := 46) (tgt := 23) dX13_counts_46 (by decide) ?_
  exact sn_sub rfl (hk23 (x3 + 1))
set_option maxRecDepth 100000 in
theorem s_X13_counts_l23 {cx : CX} (x0 : (Option Nat)) (x1 : Int32) (x2 : Int32) (x3 : Int32) : Sn cx m_X13_counts eV 23 [(3, vI x3), (0, vA x0), (1, vI x1), (2, vI x2)] [] (f_X13_counts_l23 x0 x1 x2 x3) :=
  sn_lq1 (L := fun x3 => [(3, vI x3), (0, vA x0), (1, vI x1), (2, vI x2)]) (fun k hk x3 => s_X13_counts_b23 x0 x1 x2 hk x3) fuel x3
def f_X13_counts (p0 : (Option Nat)) (p1 : Int32) : Mo Unit :=
  mBd (mGetA 11 3 p0) (fun r1 => mBd (mGetA 9 4 r1) (fun r2 => mBd (mGetA 11 3 p0) (fun r3 => mBd (mGetA 9 5 r3) (fun r4 => mBd (mLdI 1 r4 p1) (fun r5 => mBd (mLdA 7 r2 r5) (fun r6 => mBd (mGetI 10 0 r6) (fun r7 => f_X13_counts_l23 p0 p1 r7 (0 : Int32))))))))
set_option maxRecDepth 100000 in
theorem s_X13_counts {cx : CX} (p0 : (Option Nat)) (p1 : Int32) : Sn cx m_X13_counts eV 0 [(0, vA p0), (1, vI p1)] [] (f_X13_counts p0 p1) := by
  refine sn_aload_n (y := m_X13_counts) (pc := 0) dX13_counts_0 rfl ?_
  refine sn_getA (y := m_X13_counts) (pc := 1) ca_11 rfl fk_X13_369 (fun _ _ _ => rfl) dX13_counts_1 (fun r1 => ?_)
  refine sn_getA (y := m_X13_counts) (pc := 4) ca_9 rfl fk_X13_259 (fun _ _ _ => rfl) dX13_counts_4 (fun r2 => ?_)
  refine sn_aload_n (y := m_X13_counts) (pc := 7) dX13_counts_7 rfl ?_
  refine sn_getA (y := m_X13_counts) (pc := 8) ca_11 rfl fk_X13_369 (fun _ _ _ => rfl) dX13_counts_8 (fun r3 => ?_)
  refine sn_getA (y := m_X13_counts) (pc := 11) ca_9 rfl fk_X13_282 (fun _ _ _ => rfl) dX13_counts_11 (fun r4 => ?_)
  refine sn_iload_n (y := m_X13_counts) (pc := 14) dX13_counts_14 rfl ?_
  refine sn_iaload (y := m_X13_counts) (pc := 15) dX13_counts_15 (fun r5 => ?_)
  refine sn_aaload (y := m_X13_counts) (pc := 16) dX13_counts_16 (fun r6 => ?_)
  refine sn_getI (y := m_X13_counts) (pc := 17) ca_10 rfl fk_X13_81 (fun _ _ _ => rfl) dX13_counts_17 (fun r7 => ?_)
  refine sn_istore_n (y := m_X13_counts) (pc := 20) dX13_counts_20 rfl ?_
  refine sn_iconst (y := m_X13_counts) (pc := 21) dX13_counts_21 kc_iconst_0 ?_
  refine sn_istore_n (y := m_X13_counts) (pc := 22) dX13_counts_22 rfl ?_
  exact sn_sub rfl (s_X13_counts_l23 p0 p1 r7 (0 : Int32))
set_option maxRecDepth 100000 in
theorem c_X13_counts (g : Gl) (p0 : (Option Nat)) (p1 : Int32) : Cn g m_X13_counts eV [vA p0, vI p1] (mCk 11 p0 (f_X13_counts p0 p1)) := cn_of_sn (by decide +kernel) rfl (fun _ => rfl) rfl (fun _ _ => sn_ck (s_X13_counts p0 p1))
/-! X13_isEquation -/
def f_X13_isEquation (p0 : (Option Nat)) (p1 : Int32) : Mo Int32 :=
  mBd (mGetA 11 3 p0) (fun r1 => (if r1 = none then mRt (0 : Int32) else (if p1 < 0 then mRt (0 : Int32) else mBd (mGetA 11 3 p0) (fun r2 => mBd (mGetI 9 1 r2) (fun r3 => (if p1 ≥ r3 then mRt (0 : Int32) else mRt (1 : Int32)))))))
set_option maxRecDepth 100000 in
theorem s_X13_isEquation {cx : CX} (p0 : (Option Nat)) (p1 : Int32) : Sn cx m_X13_isEquation eI 0 [(0, vA p0), (1, vI p1)] [] (f_X13_isEquation p0 p1) := by
  refine sn_aload_n (y := m_X13_isEquation) (pc := 0) dX13_isEquation_0 rfl ?_
  refine sn_getA (y := m_X13_isEquation) (pc := 1) ca_11 rfl fk_X13_369 (fun _ _ _ => rfl) dX13_isEquation_1 (fun r1 => ?_)
  refine sn_ifnull (y := m_X13_isEquation) (pc := 4) (tgt := 26) dX13_isEquation_4 (by decide) ?_ ?_
  · refine sn_iconst (y := m_X13_isEquation) (pc := 26) dX13_isEquation_26 kc_iconst_0 ?_
    exact sn_zreturnC (by decide) rfl dX13_isEquation_27
  refine sn_iload_n (y := m_X13_isEquation) (pc := 7) dX13_isEquation_7 rfl ?_
  refine sn_if_lt (y := m_X13_isEquation) (pc := 8) (tgt := 26) dX13_isEquation_8 (by decide) (fun _ => ?_) (fun _ => ?_)
  · refine sn_iconst (y := m_X13_isEquation) (pc := 26) dX13_isEquation_26 kc_iconst_0 ?_
    exact sn_zreturnC (by decide) rfl dX13_isEquation_27
  refine sn_iload_n (y := m_X13_isEquation) (pc := 11) dX13_isEquation_11 rfl ?_
  refine sn_aload_n (y := m_X13_isEquation) (pc := 12) dX13_isEquation_12 rfl ?_
  refine sn_getA (y := m_X13_isEquation) (pc := 13) ca_11 rfl fk_X13_369 (fun _ _ _ => rfl) dX13_isEquation_13 (fun r2 => ?_)
  refine sn_getI (y := m_X13_isEquation) (pc := 16) ca_9 rfl fk_X13_267 (fun _ _ _ => rfl) dX13_isEquation_16 (fun r3 => ?_)
  refine sn_icmp_ge (y := m_X13_isEquation) (pc := 19) (tgt := 26) dX13_isEquation_19 (by decide) (fun _ => ?_) (fun _ => ?_)
  · refine sn_iconst (y := m_X13_isEquation) (pc := 26) dX13_isEquation_26 kc_iconst_0 ?_
    exact sn_zreturnC (by decide) rfl dX13_isEquation_27
  refine sn_iconst (y := m_X13_isEquation) (pc := 22) dX13_isEquation_22 kc_iconst_1 ?_
  refine sn_goto (y := m_X13_isEquation) (pc := 23) (tgt := 27) dX13_isEquation_23 (by decide) ?_
  exact sn_zreturnC (by decide) rfl dX13_isEquation_27
set_option maxRecDepth 100000 in
theorem c_X13_isEquation (g : Gl) (p0 : (Option Nat)) (p1 : Int32) : Cn g m_X13_isEquation eI [vA p0, vI p1] (mCk 11 p0 (f_X13_isEquation p0 p1)) := cn_of_sn (by decide +kernel) rfl (fun r => ⟨r, rfl⟩) rfl (fun _ _ => sn_ck (s_X13_isEquation p0 p1))
/-! X13_count -/
def f_X13_count (p0 : (Option Nat)) (p1 : Int32) : Mo Int32 :=
  mBd (mPutI 11 0 p0 (0 : Int32)) (fun _ => mBd (mCk 11 p0 (f_X13_isEquation p0 p1)) (fun r1 => (if ¬ r1 = 0 then mBd (mCk 11 p0 (f_X13_counts p0 p1)) (fun _ => mBd (mGetA 11 21 p0) (fun r2 => mBd (mGetA 11 3 p0) (fun r3 => mBd (mGetA 9 7 r3) (fun r4 => mBd (mLdI 1 r4 p1) (fun r5 => mBd (mLdI 1 r2 r5) (fun r6 => mBd (mCk 11 p0 (f_X13_good p0 r6)) (fun r7 => mRt r7))))))) else mBd (mCk 11 p0 (f_X13_refused p0 (1 : Int32))) (fun r8 => mRt r8))))
set_option maxRecDepth 100000 in
theorem s_X13_count {cx : CX} (p0 : (Option Nat)) (p1 : Int32) : Sn cx m_X13_count eI 0 [(0, vA p0), (1, vI p1)] [] (f_X13_count p0 p1) := by
  refine sn_aload_n (y := m_X13_count) (pc := 0) dX13_count_0 rfl ?_
  refine sn_iconst (y := m_X13_count) (pc := 1) dX13_count_1 kc_iconst_0 ?_
  refine sn_putI (y := m_X13_count) (pc := 2) ca_11 rfl fk_X13_46 (Or.inl rfl) rfl dX13_count_2 ?_
  refine sn_aload_n (y := m_X13_count) (pc := 5) dX13_count_5 rfl ?_
  refine sn_iload_n (y := m_X13_count) (pc := 6) dX13_count_6 rfl ?_
  refine sn_invV (y := m_X13_count) (pc := 7) ca_11 (av := [vI p1]) (o := p0) (st := []) dX13_count_7 lk_X13_413 im_X13_isEquation se_X13_isEquation rfl rfl rfl rfl ⟨by decide, by decide⟩ (c_X13_isEquation cx.1 p0 p1) (fun r1 => ?_)
  refine sn_if_ne (y := m_X13_count) (pc := 10) (tgt := 19) dX13_count_10 (by decide) (fun _ => ?_) (fun _ => ?_)
  · refine sn_aload_n (y := m_X13_count) (pc := 19) dX13_count_19 rfl ?_
    refine sn_iload_n (y := m_X13_count) (pc := 20) dX13_count_20 rfl ?_
    refine sn_invV (y := m_X13_count) (pc := 21) ca_11 (av := [vI p1]) (o := p0) (st := []) dX13_count_21 lk_X13_416 im_X13_counts se_X13_counts rfl rfl rfl rfl ⟨by decide, by decide⟩ (c_X13_counts cx.1 p0 p1) (fun _ => ?_)
    refine sn_aload_n (y := m_X13_count) (pc := 24) dX13_count_24 rfl ?_
    refine sn_aload_n (y := m_X13_count) (pc := 25) dX13_count_25 rfl ?_
    refine sn_getA (y := m_X13_count) (pc := 26) ca_11 rfl fk_X13_24 (fun _ _ _ => rfl) dX13_count_26 (fun r2 => ?_)
    refine sn_aload_n (y := m_X13_count) (pc := 29) dX13_count_29 rfl ?_
    refine sn_getA (y := m_X13_count) (pc := 30) ca_11 rfl fk_X13_369 (fun _ _ _ => rfl) dX13_count_30 (fun r3 => ?_)
    refine sn_getA (y := m_X13_count) (pc := 33) ca_9 rfl fk_X13_288 (fun _ _ _ => rfl) dX13_count_33 (fun r4 => ?_)
    refine sn_iload_n (y := m_X13_count) (pc := 36) dX13_count_36 rfl ?_
    refine sn_iaload (y := m_X13_count) (pc := 37) dX13_count_37 (fun r5 => ?_)
    refine sn_iaload (y := m_X13_count) (pc := 38) dX13_count_38 (fun r6 => ?_)
    refine sn_invV (y := m_X13_count) (pc := 39) ca_11 (av := [vI r6]) (o := p0) (st := []) dX13_count_39 lk_X13_56 im_X13_good se_X13_good rfl rfl rfl rfl ⟨by decide, by decide⟩ (c_X13_good cx.1 p0 r6) (fun r7 => ?_)
    exact sn_ireturn rfl dX13_count_42
  refine sn_aload_n (y := m_X13_count) (pc := 13) dX13_count_13 rfl ?_
  refine sn_iconst (y := m_X13_count) (pc := 14) dX13_count_14 kc_iconst_1 ?_
  refine sn_invV (y := m_X13_count) (pc := 15) ca_11 (av := [vI (1 : Int32)]) (o := p0) (st := []) dX13_count_15 lk_X13_52 im_X13_refused se_X13_refused rfl rfl rfl rfl ⟨by decide, by decide⟩ (c_X13_refused cx.1 p0 (1 : Int32)) (fun r8 => ?_)
  exact sn_ireturn rfl dX13_count_18
set_option maxRecDepth 100000 in
theorem c_X13_count (g : Gl) (p0 : (Option Nat)) (p1 : Int32) : Cn g m_X13_count eI [vA p0, vI p1] (mCk 11 p0 (f_X13_count p0 p1)) := cn_of_sn (by decide +kernel) rfl (fun r => ⟨r, rfl⟩) rfl (fun _ _ => sn_ck (s_X13_count p0 p1))
/-! X13_countOf -/
def f_X13_countOf (p0 : (Option Nat)) (p1 : Int32) (p2 : Int32) : Mo Int32 :=
  mBd (mPutI 11 0 p0 (0 : Int32)) (fun _ => mBd (mCk 11 p0 (f_X13_isEquation p0 p1)) (fun r1 => (if ¬ r1 = 0 then mBd (mGetA 11 3 p0) (fun r2 => mBd (mGetA 9 4 r2) (fun r3 => mBd (mGetA 11 3 p0) (fun r4 => mBd (mGetA 9 5 r4) (fun r5 => mBd (mLdI 1 r5 p1) (fun r6 => mBd (mLdA 7 r3 r6) (fun r7 => mBd (mGetI 10 0 r7) (fun r8 => mBd (f_X13_in p2 (0 : Int32) (r8 - (1 : Int32))) (fun r9 => (if ¬ r9 = 0 then mBd (mCk 11 p0 (f_X13_counts p0 p1)) (fun _ => mBd (mGetA 11 21 p0) (fun r10 => mBd (mLdI 1 r10 p2) (fun r11 => mBd (mCk 11 p0 (f_X13_good p0 r11)) (fun r12 => mRt r12)))) else mBd (mCk 11 p0 (f_X13_refused p0 (2 : Int32))) (fun r13 => mRt r13)))))))))) else mBd (mCk 11 p0 (f_X13_refused p0 (1 : Int32))) (fun r14 => mRt r14))))
set_option maxRecDepth 100000 in
theorem s_X13_countOf {cx : CX} (p0 : (Option Nat)) (p1 : Int32) (p2 : Int32) : Sn cx m_X13_countOf eI 0 [(0, vA p0), (1, vI p1), (2, vI p2)] [] (f_X13_countOf p0 p1 p2) := by
  refine sn_aload_n (y := m_X13_countOf) (pc := 0) dX13_countOf_0 rfl ?_
  refine sn_iconst (y := m_X13_countOf) (pc := 1) dX13_countOf_1 kc_iconst_0 ?_
  refine sn_putI (y := m_X13_countOf) (pc := 2) ca_11 rfl fk_X13_46 (Or.inl rfl) rfl dX13_countOf_2 ?_
  refine sn_aload_n (y := m_X13_countOf) (pc := 5) dX13_countOf_5 rfl ?_
  refine sn_iload_n (y := m_X13_countOf) (pc := 6) dX13_countOf_6 rfl ?_
  refine sn_invV (y := m_X13_countOf) (pc := 7) ca_11 (av := [vI p1]) (o := p0) (st := []) dX13_countOf_7 lk_X13_413 im_X13_isEquation se_X13_isEquation rfl rfl rfl rfl ⟨by decide, by decide⟩ (c_X13_isEquation cx.1 p0 p1) (fun r1 => ?_)
  refine sn_if_ne (y := m_X13_countOf) (pc := 10) (tgt := 19) dX13_countOf_10 (by decide) (fun _ => ?_) (fun _ => ?_)
  · refine sn_iload_n (y := m_X13_countOf) (pc := 19) dX13_countOf_19 rfl ?_
    refine sn_iconst (y := m_X13_countOf) (pc := 20) dX13_countOf_20 kc_iconst_0 ?_
    refine sn_aload_n (y := m_X13_countOf) (pc := 21) dX13_countOf_21 rfl ?_
    refine sn_getA (y := m_X13_countOf) (pc := 22) ca_11 rfl fk_X13_369 (fun _ _ _ => rfl) dX13_countOf_22 (fun r2 => ?_)
    refine sn_getA (y := m_X13_countOf) (pc := 25) ca_9 rfl fk_X13_259 (fun _ _ _ => rfl) dX13_countOf_25 (fun r3 => ?_)
    refine sn_aload_n (y := m_X13_countOf) (pc := 28) dX13_countOf_28 rfl ?_
    refine sn_getA (y := m_X13_countOf) (pc := 29) ca_11 rfl fk_X13_369 (fun _ _ _ => rfl) dX13_countOf_29 (fun r4 => ?_)
    refine sn_getA (y := m_X13_countOf) (pc := 32) ca_9 rfl fk_X13_282 (fun _ _ _ => rfl) dX13_countOf_32 (fun r5 => ?_)
    refine sn_iload_n (y := m_X13_countOf) (pc := 35) dX13_countOf_35 rfl ?_
    refine sn_iaload (y := m_X13_countOf) (pc := 36) dX13_countOf_36 (fun r6 => ?_)
    refine sn_aaload (y := m_X13_countOf) (pc := 37) dX13_countOf_37 (fun r7 => ?_)
    refine sn_getI (y := m_X13_countOf) (pc := 38) ca_10 rfl fk_X13_81 (fun _ _ _ => rfl) dX13_countOf_38 (fun r8 => ?_)
    refine sn_iconst (y := m_X13_countOf) (pc := 41) dX13_countOf_41 kc_iconst_1 ?_
    refine sn_isub (y := m_X13_countOf) (pc := 42) dX13_countOf_42 ?_
    refine sn_invS (y := m_X13_countOf) (pc := 43) (av := [vI p2, vI (0 : Int32), vI (r8 - (1 : Int32))]) (st := []) dX13_countOf_43 lk_X13_168 sw_X13_in rfl rfl rfl ⟨by decide, by decide⟩ (c_X13_in cx.1 p2 (0 : Int32) (r8 - (1 : Int32))) (fun r9 => ?_)
    refine sn_if_ne (y := m_X13_countOf) (pc := 46) (tgt := 55) dX13_countOf_46 (by decide) (fun _ => ?_) (fun _ => ?_)
    · refine sn_aload_n (y := m_X13_countOf) (pc := 55) dX13_countOf_55 rfl ?_
      refine sn_iload_n (y := m_X13_countOf) (pc := 56) dX13_countOf_56 rfl ?_
      refine sn_invV (y := m_X13_countOf) (pc := 57) ca_11 (av := [vI p1]) (o := p0) (st := []) dX13_countOf_57 lk_X13_416 im_X13_counts se_X13_counts rfl rfl rfl rfl ⟨by decide, by decide⟩ (c_X13_counts cx.1 p0 p1) (fun _ => ?_)
      refine sn_aload_n (y := m_X13_countOf) (pc := 60) dX13_countOf_60 rfl ?_
      refine sn_aload_n (y := m_X13_countOf) (pc := 61) dX13_countOf_61 rfl ?_
      refine sn_getA (y := m_X13_countOf) (pc := 62) ca_11 rfl fk_X13_24 (fun _ _ _ => rfl) dX13_countOf_62 (fun r10 => ?_)
      refine sn_iload_n (y := m_X13_countOf) (pc := 65) dX13_countOf_65 rfl ?_
      refine sn_iaload (y := m_X13_countOf) (pc := 66) dX13_countOf_66 (fun r11 => ?_)
      refine sn_invV (y := m_X13_countOf) (pc := 67) ca_11 (av := [vI r11]) (o := p0) (st := []) dX13_countOf_67 lk_X13_56 im_X13_good se_X13_good rfl rfl rfl rfl ⟨by decide, by decide⟩ (c_X13_good cx.1 p0 r11) (fun r12 => ?_)
      exact sn_ireturn rfl dX13_countOf_70
    refine sn_aload_n (y := m_X13_countOf) (pc := 49) dX13_countOf_49 rfl ?_
    refine sn_iconst (y := m_X13_countOf) (pc := 50) dX13_countOf_50 kc_iconst_2 ?_
    refine sn_invV (y := m_X13_countOf) (pc := 51) ca_11 (av := [vI (2 : Int32)]) (o := p0) (st := []) dX13_countOf_51 lk_X13_52 im_X13_refused se_X13_refused rfl rfl rfl rfl ⟨by decide, by decide⟩ (c_X13_refused cx.1 p0 (2 : Int32)) (fun r13 => ?_)
    exact sn_ireturn rfl dX13_countOf_54
  refine sn_aload_n (y := m_X13_countOf) (pc := 13) dX13_countOf_13 rfl ?_
  refine sn_iconst (y := m_X13_countOf) (pc := 14) dX13_countOf_14 kc_iconst_1 ?_
  refine sn_invV (y := m_X13_countOf) (pc := 15) ca_11 (av := [vI (1 : Int32)]) (o := p0) (st := []) dX13_countOf_15 lk_X13_52 im_X13_refused se_X13_refused rfl rfl rfl rfl ⟨by decide, by decide⟩ (c_X13_refused cx.1 p0 (1 : Int32)) (fun r14 => ?_)
  exact sn_ireturn rfl dX13_countOf_18
set_option maxRecDepth 100000 in
theorem c_X13_countOf (g : Gl) (p0 : (Option Nat)) (p1 : Int32) (p2 : Int32) : Cn g m_X13_countOf eI [vA p0, vI p1, vI p2] (mCk 11 p0 (f_X13_countOf p0 p1 p2)) := cn_of_sn (by decide +kernel) rfl (fun r => ⟨r, rfl⟩) rfl (fun _ _ => sn_ck (s_X13_countOf p0 p1 p2))
/-! X13_powerRow -/
def f_X13_powerRow_b10 (x0 : (Option Nat)) (x1 : (Option Nat)) (x2 : Int32) (x3 : Int32) (x4 : Int32) (k10 : Int32 → Mo Unit) (x5 : Int32) : Mo Unit :=
  (if x5 ≥ x3 then mRt () else mBd (mCk 11 x0 (f_X13_multiply x0 x1 x4 x2 x4)) (fun _ => k10 (x5 + 1)))
def f_X13_powerRow_l10 (x0 : (Option Nat)) (x1 : (Option Nat)) (x2 : Int32) (x3 : Int32) (x4 : Int32) : Int32 → Mo Unit := lq1 (f_X13_powerRow_b10 x0 x1 x2 x3 x4) fuel
set_option maxRecDepth 100000 in
theorem s_X13_powerRow_b10 {cx : CX} (x0 : (Option Nat)) (x1 : (Option Nat)) (x2 : Int32) (x3 : Int32) (x4 : Int32) {k10 : Int32 → Mo Unit} (hk10 : ∀ (z5 : Int32), Sn cx m_X13_powerRow eV 10 [(5, vI z5), (0, vA x0), (1, vA x1), (2, vI x2), (3, vI x3), (4, vI x4)] [] (k10 z5)) (x5 : Int32) : Sn cx m_X13_powerRow eV 10 [(5, vI x5), (0, vA x0), (1, vA x1), (2, vI x2), (3, vI x3), (4, vI x4)] [] (f_X13_powerRow_b10 x0 x1 x2 x3 x4 k10 x5) := by
  refine sn_iload (y := m_X13_powerRow) (pc := 10) dX13_powerRow_10 rfl ?_
  refine sn_iload_n (y := m_X13_powerRow) (pc := 12) dX13_powerRow_12 rfl ?_
  refine sn_icmp_ge (y := m_X13_powerRow) (pc := 13) (tgt := 32) dX13_powerRow_13 (by decide) (fun _ => ?_) (fun _ => ?_)
  · exact sn_return rfl dX13_powerRow_32
  refine sn_aload_n (y := m_X13_powerRow) (pc := 16) dX13_powerRow_16 rfl ?_
  refine sn_aload_n (y := m_X13_powerRow) (pc := 17) dX13_powerRow_17 rfl ?_
  refine sn_iload (y := m_X13_powerRow) (pc := 18) dX13_powerRow_18 rfl ?_
  refine sn_iload_n (y := m_X13_powerRow) (pc := 20) dX13_powerRow_20 rfl ?_
  refine sn_iload (y := m_X13_powerRow) (pc := 21) dX13_powerRow_21 rfl ?_
  refine sn_invV (y := m_X13_powerRow) (pc := 23) ca_11 (av := [vA x1, vI x4, vI x2, vI x4]) (o := x0) (st := []) dX13_powerRow_23 lk_X13_334 im_X13_multiply se_X13_multiply rfl rfl rfl rfl ⟨by decide, by decide⟩ (c_X13_multiply cx.1 x0 x1 x4 x2 x4) (fun _ => ?_)
  refine sn_iinc (y := m_X13_powerRow) (pc := 26) (v := x5 + 1) dX13_powerRow_26 rfl (by rfl) rfl ?_
  refine sn_goto (y := m_X13_powerRow) (pc := 29) (tgt := 10) dX13_powerRow_29 (by decide) ?_
  exact sn_sub rfl (hk10 (x5 + 1))
set_option maxRecDepth 100000 in
theorem s_X13_powerRow_l10 {cx : CX} (x0 : (Option Nat)) (x1 : (Option Nat)) (x2 : Int32) (x3 : Int32) (x4 : Int32) (x5 : Int32) : Sn cx m_X13_powerRow eV 10 [(5, vI x5), (0, vA x0), (1, vA x1), (2, vI x2), (3, vI x3), (4, vI x4)] [] (f_X13_powerRow_l10 x0 x1 x2 x3 x4 x5) :=
  sn_lq1 (L := fun x5 => [(5, vI x5), (0, vA x0), (1, vA x1), (2, vI x2), (3, vI x3), (4, vI x4)]) (fun k hk x5 => s_X13_powerRow_b10 x0 x1 x2 x3 x4 hk x5) fuel x5
def f_X13_powerRow (p0 : (Option Nat)) (p1 : (Option Nat)) (p2 : Int32) (p3 : Int32) (p4 : Int32) : Mo Unit :=
  mBd (mCk 11 p0 (f_X13_wholeRow p0 p4 (1 : Int64))) (fun _ => f_X13_powerRow_l10 p0 p1 p2 p3 p4 (0 : Int32))
set_option maxRecDepth 100000 in
theorem s_X13_powerRow {cx : CX} (p0 : (Option Nat)) (p1 : (Option Nat)) (p2 : Int32) (p3 : Int32) (p4 : Int32) : Sn cx m_X13_powerRow eV 0 [(0, vA p0), (1, vA p1), (2, vI p2), (3, vI p3), (4, vI p4)] [] (f_X13_powerRow p0 p1 p2 p3 p4) := by
  refine sn_aload_n (y := m_X13_powerRow) (pc := 0) dX13_powerRow_0 rfl ?_
  refine sn_iload (y := m_X13_powerRow) (pc := 1) dX13_powerRow_1 rfl ?_
  refine sn_lconst (y := m_X13_powerRow) (pc := 3) dX13_powerRow_3 kc_lconst_1 ?_
  refine sn_invV (y := m_X13_powerRow) (pc := 4) ca_11 (av := [vI p4, vJ (1 : Int64)]) (o := p0) (st := []) dX13_powerRow_4 lk_X13_297 im_X13_wholeRow se_X13_wholeRow rfl rfl rfl rfl ⟨by decide, by decide⟩ (c_X13_wholeRow cx.1 p0 p4 (1 : Int64)) (fun _ => ?_)
  refine sn_iconst (y := m_X13_powerRow) (pc := 7) dX13_powerRow_7 kc_iconst_0 ?_
  refine sn_istore (y := m_X13_powerRow) (pc := 8) dX13_powerRow_8 rfl ?_
  exact sn_sub rfl (s_X13_powerRow_l10 p0 p1 p2 p3 p4 (0 : Int32))
set_option maxRecDepth 100000 in
theorem c_X13_powerRow (g : Gl) (p0 : (Option Nat)) (p1 : (Option Nat)) (p2 : Int32) (p3 : Int32) (p4 : Int32) : Cn g m_X13_powerRow eV [vA p0, vA p1, vI p2, vI p3, vI p4] (mCk 11 p0 (f_X13_powerRow p0 p1 p2 p3 p4)) := cn_of_sn (by decide +kernel) rfl (fun _ => rfl) rfl (fun _ _ => sn_ck (s_X13_powerRow p0 p1 p2 p3 p4))
/-! X13_curve -/
def f_X13_curve_b97 (k85 : Int32 → Mo Int64) (x0 : (Option Nat)) (x2 : Int32) (x3 : (Option Nat)) (x4 : Int32) (k97 : Int32 → Mo Int64) (x5 : Int32) : Mo Int64 :=
  mBd (mGetI 10 1 x3) (fun r10 => (if x5 ≥ r10 then k85 (x4 + 1) else mBd (mGetI 10 1 x3) (fun r11 => (if ¬ (x4 + x5) = r11 then mBd (mCk 11 x0 (f_X13_jacobiRow x0 x3 x4 x5 (0 : Int32))) (fun _ => mBd (mCk 11 x0 (f_X13_powerRow x0 x3 (0 : Int32) x2 (1 : Int32))) (fun _ => (if ¬ (irem x2 (2 : Int32)) = 0 then mBd (mCk 11 x0 (f_X13_added x0 (3 : Int32) (1 : Int32) (1 : Int64))) (fun _ => k97 (x5 + 1)) else mBd (mCk 11 x0 (f_X13_added x0 (3 : Int32) (1 : Int32) (-1 : Int64))) (fun _ => k97 (x5 + 1))))) else mBd (mCk 11 x0 (f_X13_clearWide x0)) (fun _ => mBd (mGetA 11 6 x0) (fun r12 => mBd (mGetI 10 0 x3) (fun r13 => mBd (f_X13_at x3 x4 (r13 - (1 : Int32))) (fun r14 => mBd (mStJ r12 r14 (1 : Int64)) (fun _ => mBd (mCk 11 x0 (f_X13_settles x0 x3 (0 : Int32))) (fun _ => mBd (mCk 11 x0 (f_X13_powerRow x0 x3 (0 : Int32) x2 (1 : Int32))) (fun _ => mBd (mCk 11 x0 (f_X13_added x0 (3 : Int32) (1 : Int32) (-1 : Int64))) (fun _ => k97 (x5 + 1)))))))))))))
def f_X13_curve_l97 (k85 : Int32 → Mo Int64) (x0 : (Option Nat)) (x2 : Int32) (x3 : (Option Nat)) (x4 : Int32) : Int32 → Mo Int64 := lq1 (f_X13_curve_b97 k85 x0 x2 x3 x4) fuel
set_option maxRecDepth 100000 in
theorem s_X13_curve_b97 {cx : CX} {k85 : Int32 → Mo Int64} (x0 : (Option Nat)) (x2 : Int32) (x3 : (Option Nat)) (x4 : Int32) (hk85 : ∀ (z4 : Int32), Sn cx m_X13_curve eJ 85 [(4, vI z4), (0, vA x0), (2, vI x2), (3, vA x3)] [] (k85 z4)) {k97 : Int32 → Mo Int64} (hk97 : ∀ (z5 : Int32), Sn cx m_X13_curve eJ 97 [(5, vI z5), (0, vA x0), (2, vI x2), (3, vA x3), (4, vI x4)] [] (k97 z5)) (x5 : Int32) : Sn cx m_X13_curve eJ 97 [(5, vI x5), (0, vA x0), (2, vI x2), (3, vA x3), (4, vI x4)] [] (f_X13_curve_b97 k85 x0 x2 x3 x4 k97 x5) := by
  refine sn_iload (y := m_X13_curve) (pc := 97) dX13_curve_97 rfl ?_
  refine sn_aload_n (y := m_X13_curve) (pc := 99) dX13_curve_99 rfl ?_
  refine sn_getI (y := m_X13_curve) (pc := 100) ca_10 rfl fk_X13_59 (fun _ _ _ => rfl) dX13_curve_100 (fun r10 => ?_)
  refine sn_icmp_ge (y := m_X13_curve) (pc := 103) (tgt := 209) dX13_curve_103 (by decide) (fun _ => ?_) (fun _ => ?_)
  · refine sn_iinc (y := m_X13_curve) (pc := 209) (v := x4 + 1) dX13_curve_209 rfl (by rfl) rfl ?_
    refine sn_goto (y := m_X13_curve) (pc := 212) (tgt := 85) dX13_curve_212 (by decide) ?_
    exact sn_sub rfl (hk85 (x4 + 1))
  refine sn_iload (y := m_X13_curve) (pc := 106) dX13_curve_106 rfl ?_
  refine sn_iload (y := m_X13_curve) (pc := 108) dX13_curve_108 rfl ?_
  refine sn_iadd (y := m_X13_curve) (pc := 110) dX13_curve_110 ?_
  refine sn_aload_n (y := m_X13_curve) (pc := 111) dX13_curve_111 rfl ?_
  refine sn_getI (y := m_X13_curve) (pc := 112) ca_10 rfl fk_X13_59 (fun _ _ _ => rfl) dX13_curve_112 (fun r11 => ?_)
  refine sn_icmp_ne (y := m_X13_curve) (pc := 115) (tgt := 166) dX13_curve_115 (by decide) (fun _ => ?_) (fun _ => ?_)
  · refine sn_aload_n (y := m_X13_curve) (pc := 166) dX13_curve_166 rfl ?_
    refine sn_aload_n (y := m_X13_curve) (pc := 167) dX13_curve_167 rfl ?_
    refine sn_iload (y := m_X13_curve) (pc := 168) dX13_curve_168 rfl ?_
    refine sn_iload (y := m_X13_curve) (pc := 170) dX13_curve_170 rfl ?_
    refine sn_iconst (y := m_X13_curve) (pc := 172) dX13_curve_172 kc_iconst_0 ?_
    refine sn_invV (y := m_X13_curve) (pc := 173) ca_11 (av := [vA x3, vI x4, vI x5, vI (0 : Int32)]) (o := x0) (st := []) dX13_curve_173 lk_X13_353 im_X13_jacobiRow se_X13_jacobiRow rfl rfl rfl rfl ⟨by decide, by decide⟩ (c_X13_jacobiRow cx.1 x0 x3 x4 x5 (0 : Int32)) (fun _ => ?_)
    refine sn_aload_n (y := m_X13_curve) (pc := 176) dX13_curve_176 rfl ?_
    refine sn_aload_n (y := m_X13_curve) (pc := 177) dX13_curve_177 rfl ?_
    refine sn_iconst (y := m_X13_curve) (pc := 178) dX13_curve_178 kc_iconst_0 ?_
    refine sn_iload_n (y := m_X13_curve) (pc := 179) dX13_curve_179 rfl ?_
    refine sn_iconst (y := m_X13_curve) (pc := 180) dX13_curve_180 kc_iconst_1 ?_
    refine sn_invV (y := m_X13_curve) (pc := 181) ca_11 (av := [vA x3, vI (0 : Int32), vI x2, vI (1 : Int32)]) (o := x0) (st := []) dX13_curve_181 lk_X13_419 im_X13_powerRow se_X13_powerRow rfl rfl rfl rfl ⟨by decide, by decide⟩ (c_X13_powerRow cx.1 x0 x3 (0 : Int32) x2 (1 : Int32)) (fun _ => ?_)
    refine sn_aload_n (y := m_X13_curve) (pc := 184) dX13_curve_184 rfl ?_
    refine sn_iconst (y := m_X13_curve) (pc := 185) dX13_curve_185 kc_iconst_3 ?_
    refine sn_iconst (y := m_X13_curve) (pc := 186) dX13_curve_186 kc_iconst_1 ?_
    refine sn_iload_n (y := m_X13_curve) (pc := 187) dX13_curve_187 rfl ?_
    refine sn_iconst (y := m_X13_curve) (pc := 188) dX13_curve_188 kc_iconst_2 ?_
    refine sn_iremC (y := m_X13_curve) (pc := 189) (by decide) dX13_curve_189 ?_
    refine sn_if_ne (y := m_X13_curve) (pc := 190) (tgt := 199) dX13_curve_190 (by decide) (fun _ => ?_) (fun _ => ?_)
    · refine sn_lconst (y := m_X13_curve) (pc := 199) dX13_curve_199 kc_lconst_1 ?_
      refine sn_invV (y := m_X13_curve) (pc := 200) ca_11 (av := [vI (3 : Int32), vI (1 : Int32), vJ (1 : Int64)]) (o := x0) (st := []) dX13_curve_200 lk_X13_324 im_X13_added se_X13_added rfl rfl rfl rfl ⟨by decide, by decide⟩ (c_X13_added cx.1 x0 (3 : Int32) (1 : Int32) (1 : Int64)) (fun _ => ?_)
      refine sn_iinc (y := m_X13_curve) (pc := 203) (v := x5 + 1) dX13_curve_203 rfl (by rfl) rfl ?_
      refine sn_goto (y := m_X13_curve) (pc := 206) (tgt := 97) dX13_curve_206 (by decide) ?_
      exact sn_sub rfl (hk97 (x5 + 1))
    refine sn_ldcJ (y := m_X13_curve) (pc := 193) kj_X13_322 dX13_curve_193 ?_
    refine sn_goto (y := m_X13_curve) (pc := 196) (tgt := 200) dX13_curve_196 (by decide) ?_
    refine sn_invV (y := m_X13_curve) (pc := 200) ca_11 (av := [vI (3 : Int32), vI (1 : Int32), vJ (-1 : Int64)]) (o := x0) (st := []) dX13_curve_200 lk_X13_324 im_X13_added se_X13_added rfl rfl rfl rfl ⟨by decide, by decide⟩ (c_X13_added cx.1 x0 (3 : Int32) (1 : Int32) (-1 : Int64)) (fun _ => ?_)
    refine sn_iinc (y := m_X13_curve) (pc := 203) (v := x5 + 1) dX13_curve_203 rfl (by rfl) rfl ?_
    refine sn_goto (y := m_X13_curve) (pc := 206) (tgt := 97) dX13_curve_206 (by decide) ?_
    exact sn_sub rfl (hk97 (x5 + 1))
  refine sn_aload_n (y := m_X13_curve) (pc := 118) dX13_curve_118 rfl ?_
  refine sn_invV (y := m_X13_curve) (pc := 119) ca_11 (av := []) (o := x0) (st := []) dX13_curve_119 lk_X13_70 im_X13_clearWide se_X13_clearWide rfl rfl rfl rfl ⟨by decide, by decide⟩ (c_X13_clearWide cx.1 x0) (fun _ => ?_)
  refine sn_aload_n (y := m_X13_curve) (pc := 122) dX13_curve_122 rfl ?_
  refine sn_getA (y := m_X13_curve) (pc := 123) ca_11 rfl fk_X13_17 (fun _ _ _ => rfl) dX13_curve_123 (fun r12 => ?_)
  refine sn_aload_n (y := m_X13_curve) (pc := 126) dX13_curve_126 rfl ?_
  refine sn_iload (y := m_X13_curve) (pc := 127) dX13_curve_127 rfl ?_
  refine sn_aload_n (y := m_X13_curve) (pc := 129) dX13_curve_129 rfl ?_
  refine sn_getI (y := m_X13_curve) (pc := 130) ca_10 rfl fk_X13_81 (fun _ _ _ => rfl) dX13_curve_130 (fun r13 => ?_)
  refine sn_iconst (y := m_X13_curve) (pc := 133) dX13_curve_133 kc_iconst_1 ?_
  refine sn_isub (y := m_X13_curve) (pc := 134) dX13_curve_134 ?_
  refine sn_invS (y := m_X13_curve) (pc := 135) (av := [vA x3, vI x4, vI (r13 - (1 : Int32))]) (st := [vA r12]) dX13_curve_135 lk_X13_87 sw_X13_at rfl rfl rfl ⟨by decide, by decide⟩ (c_X13_at cx.1 x3 x4 (r13 - (1 : Int32))) (fun r14 => ?_)
  refine sn_lconst (y := m_X13_curve) (pc := 138) dX13_curve_138 kc_lconst_1 ?_
  refine sn_lastore (y := m_X13_curve) (pc := 139) dX13_curve_139 ?_
  refine sn_aload_n (y := m_X13_curve) (pc := 140) dX13_curve_140 rfl ?_
  refine sn_aload_n (y := m_X13_curve) (pc := 141) dX13_curve_141 rfl ?_
  refine sn_iconst (y := m_X13_curve) (pc := 142) dX13_curve_142 kc_iconst_0 ?_
  refine sn_invV (y := m_X13_curve) (pc := 143) ca_11 (av := [vA x3, vI (0 : Int32)]) (o := x0) (st := []) dX13_curve_143 lk_X13_73 im_X13_settles se_X13_settles rfl rfl rfl rfl ⟨by decide, by decide⟩ (c_X13_settles cx.1 x0 x3 (0 : Int32)) (fun _ => ?_)
  refine sn_aload_n (y := m_X13_curve) (pc := 146) dX13_curve_146 rfl ?_
  refine sn_aload_n (y := m_X13_curve) (pc := 147) dX13_curve_147 rfl ?_
  refine sn_iconst (y := m_X13_curve) (pc := 148) dX13_curve_148 kc_iconst_0 ?_
  refine sn_iload_n (y := m_X13_curve) (pc := 149) dX13_curve_149 rfl ?_
  refine sn_iconst (y := m_X13_curve) (pc := 150) dX13_curve_150 kc_iconst_1 ?_
  refine sn_invV (y := m_X13_curve) (pc := 151) ca_11 (av := [vA x3, vI (0 : Int32), vI x2, vI (1 : Int32)]) (o := x0) (st := []) dX13_curve_151 lk_X13_419 im_X13_powerRow se_X13_powerRow rfl rfl rfl rfl ⟨by decide, by decide⟩ (c_X13_powerRow cx.1 x0 x3 (0 : Int32) x2 (1 : Int32)) (fun _ => ?_)
  refine sn_aload_n (y := m_X13_curve) (pc := 154) dX13_curve_154 rfl ?_
  refine sn_iconst (y := m_X13_curve) (pc := 155) dX13_curve_155 kc_iconst_3 ?_
  refine sn_iconst (y := m_X13_curve) (pc := 156) dX13_curve_156 kc_iconst_1 ?_
  refine sn_ldcJ (y := m_X13_curve) (pc := 157) kj_X13_322 dX13_curve_157 ?_
  refine sn_invV (y := m_X13_curve) (pc := 160) ca_11 (av := [vI (3 : Int32), vI (1 : Int32), vJ (-1 : Int64)]) (o := x0) (st := []) dX13_curve_160 lk_X13_324 im_X13_added se_X13_added rfl rfl rfl rfl ⟨by decide, by decide⟩ (c_X13_added cx.1 x0 (3 : Int32) (1 : Int32) (-1 : Int64)) (fun _ => ?_)
  refine sn_goto (y := m_X13_curve) (pc := 163) (tgt := 203) dX13_curve_163 (by decide) ?_
  refine sn_iinc (y := m_X13_curve) (pc := 203) (v := x5 + 1) dX13_curve_203 rfl (by rfl) rfl ?_
  refine sn_goto (y := m_X13_curve) (pc := 206) (tgt := 97) dX13_curve_206 (by decide) ?_
  exact sn_sub rfl (hk97 (x5 + 1))
set_option maxRecDepth 100000 in
theorem s_X13_curve_l97 {cx : CX} {k85 : Int32 → Mo Int64} (x0 : (Option Nat)) (x2 : Int32) (x3 : (Option Nat)) (x4 : Int32) (hk85 : ∀ (z4 : Int32), Sn cx m_X13_curve eJ 85 [(4, vI z4), (0, vA x0), (2, vI x2), (3, vA x3)] [] (k85 z4)) (x5 : Int32) : Sn cx m_X13_curve eJ 97 [(5, vI x5), (0, vA x0), (2, vI x2), (3, vA x3), (4, vI x4)] [] (f_X13_curve_l97 k85 x0 x2 x3 x4 x5) :=
  sn_lq1 (L := fun x5 => [(5, vI x5), (0, vA x0), (2, vI x2), (3, vA x3), (4, vI x4)]) (fun k hk x5 => s_X13_curve_b97 x0 x2 x3 x4 hk85 hk x5) fuel x5
def f_X13_curve_b85 (x0 : (Option Nat)) (x2 : Int32) (x3 : (Option Nat)) (k85 : Int32 → Mo Int64) (x4 : Int32) : Mo Int64 :=
  mBd (mGetI 10 1 x3) (fun r6 => (if x4 ≥ r6 then mBd (mGetA 11 5 x0) (fun r7 => mBd (mLdJ r7 (36 : Int32)) (fun r8 => mBd (mCk 11 x0 (f_X13_goodLong x0 r8)) (fun r9 => mRt r9))) else f_X13_curve_l97 k85 x0 x2 x3 x4 (1 : Int32)))
def f_X13_curve_l85 (x0 : (Option Nat)) (x2 : Int32) (x3 : (Option Nat)) : Int32 → Mo Int64 := lq1 (f_X13_curve_b85 x0 x2 x3) fuel
set_option maxRecDepth 100000 in
theorem s_X13_curve_b85 {cx : CX} (x0 : (Option Nat)) (x2 : Int32) (x3 : (Option Nat)) {k85 : Int32 → Mo Int64} (hk85 : ∀ (z4 : Int32), Sn cx m_X13_curve eJ 85 [(4, vI z4), (0, vA x0), (2, vI x2), (3, vA x3)] [] (k85 z4)) (x4 : Int32) : Sn cx m_X13_curve eJ 85 [(4, vI x4), (0, vA x0), (2, vI x2), (3, vA x3)] [] (f_X13_curve_b85 x0 x2 x3 k85 x4) := by
  refine sn_iload (y := m_X13_curve) (pc := 85) dX13_curve_85 rfl ?_
  refine sn_aload_n (y := m_X13_curve) (pc := 87) dX13_curve_87 rfl ?_
  refine sn_getI (y := m_X13_curve) (pc := 88) ca_10 rfl fk_X13_59 (fun _ _ _ => rfl) dX13_curve_88 (fun r6 => ?_)
  refine sn_icmp_ge (y := m_X13_curve) (pc := 91) (tgt := 215) dX13_curve_91 (by decide) (fun _ => ?_) (fun _ => ?_)
  · refine sn_aload_n (y := m_X13_curve) (pc := 215) dX13_curve_215 rfl ?_
    refine sn_aload_n (y := m_X13_curve) (pc := 216) dX13_curve_216 rfl ?_
    refine sn_getA (y := m_X13_curve) (pc := 217) ca_11 rfl fk_X13_13 (fun _ _ _ => rfl) dX13_curve_217 (fun r7 => ?_)
    refine sn_bipush (y := m_X13_curve) (pc := 220) dX13_curve_220 kc_bipush_36 ?_
    refine sn_laload (y := m_X13_curve) (pc := 222) dX13_curve_222 (fun r8 => ?_)
    refine sn_invV (y := m_X13_curve) (pc := 223) ca_11 (av := [vJ r8]) (o := x0) (st := []) dX13_curve_223 lk_X13_422 im_X13_goodLong se_X13_goodLong rfl rfl rfl rfl ⟨by decide, by decide⟩ (c_X13_goodLong cx.1 x0 r8) (fun r9 => ?_)
    exact sn_lreturn rfl dX13_curve_226
  refine sn_iconst (y := m_X13_curve) (pc := 94) dX13_curve_94 kc_iconst_1 ?_
  refine sn_istore (y := m_X13_curve) (pc := 95) dX13_curve_95 rfl ?_
  exact sn_sub rfl (s_X13_curve_l97 x0 x2 x3 x4 hk85 (1 : Int32))
set_option maxRecDepth 100000 in
theorem s_X13_curve_l85 {cx : CX} (x0 : (Option Nat)) (x2 : Int32) (x3 : (Option Nat)) (x4 : Int32) : Sn cx m_X13_curve eJ 85 [(4, vI x4), (0, vA x0), (2, vI x2), (3, vA x3)] [] (f_X13_curve_l85 x0 x2 x3 x4) :=
  sn_lq1 (L := fun x4 => [(4, vI x4), (0, vA x0), (2, vI x2), (3, vA x3)]) (fun k hk x4 => s_X13_curve_b85 x0 x2 x3 hk x4) fuel x4
def f_X13_curve_b55 (x0 : (Option Nat)) (x2 : Int32) (x3 : (Option Nat)) (k55 : Int32 → Mo Int64) (x4 : Int32) : Mo Int64 :=
  (if x4 ≥ x2 then f_X13_curve_l85 x0 x2 x3 (1 : Int32) else mBd (mGetA 11 5 x0) (fun r15 => mBd (mLdJ r15 (36 : Int32)) (fun r16 => mBd (mGetI 10 0 x3) (fun r17 => mBd (mStJ r15 (36 : Int32) (r16 * (r17.toInt64))) (fun _ => k55 (x4 + 1))))))
def f_X13_curve_l55 (x0 : (Option Nat)) (x2 : Int32) (x3 : (Option Nat)) : Int32 → Mo Int64 := lq1 (f_X13_curve_b55 x0 x2 x3) fuel
set_option maxRecDepth 100000 in
theorem s_X13_curve_b55 {cx : CX} (x0 : (Option Nat)) (x2 : Int32) (x3 : (Option Nat)) {k55 : Int32 → Mo Int64} (hk55 : ∀ (z4 : Int32), Sn cx m_X13_curve eJ 55 [(4, vI z4), (0, vA x0), (2, vI x2), (3, vA x3)] [] (k55 z4)) (x4 : Int32) : Sn cx m_X13_curve eJ 55 [(4, vI x4), (0, vA x0), (2, vI x2), (3, vA x3)] [] (f_X13_curve_b55 x0 x2 x3 k55 x4) := by
  refine sn_iload (y := m_X13_curve) (pc := 55) dX13_curve_55 rfl ?_
  refine sn_iload_n (y := m_X13_curve) (pc := 57) dX13_curve_57 rfl ?_
  refine sn_icmp_ge (y := m_X13_curve) (pc := 58) (tgt := 82) dX13_curve_58 (by decide) (fun _ => ?_) (fun _ => ?_)
  · refine sn_iconst (y := m_X13_curve) (pc := 82) dX13_curve_82 kc_iconst_1 ?_
    refine sn_istore (y := m_X13_curve) (pc := 83) dX13_curve_83 rfl ?_
    exact sn_sub rfl (s_X13_curve_l85 x0 x2 x3 (1 : Int32))
  refine sn_aload_n (y := m_X13_curve) (pc := 61) dX13_curve_61 rfl ?_
  refine sn_getA (y := m_X13_curve) (pc := 62) ca_11 rfl fk_X13_13 (fun _ _ _ => rfl) dX13_curve_62 (fun r15 => ?_)
  refine sn_bipush (y := m_X13_curve) (pc := 65) dX13_curve_65 kc_bipush_36 ?_
  refine sn_dup2 (y := m_X13_curve) (pc := 67) rfl rfl dX13_curve_67 ?_
  refine sn_laload (y := m_X13_curve) (pc := 68) dX13_curve_68 (fun r16 => ?_)
  refine sn_aload_n (y := m_X13_curve) (pc := 69) dX13_curve_69 rfl ?_
  refine sn_getI (y := m_X13_curve) (pc := 70) ca_10 rfl fk_X13_81 (fun _ _ _ => rfl) dX13_curve_70 (fun r17 => ?_)
  refine sn_i2l (y := m_X13_curve) (pc := 73) dX13_curve_73 ?_
  refine sn_lmul (y := m_X13_curve) (pc := 74) dX13_curve_74 ?_
  refine sn_lastore (y := m_X13_curve) (pc := 75) dX13_curve_75 ?_
  refine sn_iinc (y := m_X13_curve) (pc := 76) (v := x4 + 1) dX13_curve_76 rfl (by rfl) rfl ?_
  refine sn_goto (y := m_X13_curve) (pc := 79) (tgt := 55) dX13_curve_79 (by decide) ?_
  exact sn_sub rfl (hk55 (x4 + 1))
set_option maxRecDepth 100000 in
theorem s_X13_curve_l55 {cx : CX} (x0 : (Option Nat)) (x2 : Int32) (x3 : (Option Nat)) (x4 : Int32) : Sn cx m_X13_curve eJ 55 [(4, vI x4), (0, vA x0), (2, vI x2), (3, vA x3)] [] (f_X13_curve_l55 x0 x2 x3 x4) :=
  sn_lq1 (L := fun x4 => [(4, vI x4), (0, vA x0), (2, vI x2), (3, vA x3)]) (fun k hk x4 => s_X13_curve_b55 x0 x2 x3 hk x4) fuel x4
def f_X13_curve (p0 : (Option Nat)) (p1 : Int32) (p2 : Int32) : Mo Int64 :=
  mBd (mPutI 11 0 p0 (0 : Int32)) (fun _ => mBd (mCk 11 p0 (f_X13_isField p0 p1)) (fun r1 => (if ¬ r1 = 0 then mBd (f_X13_in p2 (1 : Int32) (4 : Int32)) (fun r2 => (if ¬ r2 = 0 then mBd (mGetA 11 3 p0) (fun r3 => mBd (mGetA 9 4 r3) (fun r4 => mBd (mLdA 7 r4 p1) (fun r5 => mBd (mCk 11 p0 (f_X13_wholeRow p0 (3 : Int32) (1 : Int64))) (fun _ => f_X13_curve_l55 p0 p2 r5 (0 : Int32))))) else mBd (mCk 11 p0 (f_X13_refused p0 (2 : Int32))) (fun r18 => mRt (r18.toInt64)))) else mBd (mCk 11 p0 (f_X13_refused p0 (1 : Int32))) (fun r19 => mRt (r19.toInt64)))))
set_option maxRecDepth 100000 in
theorem s_X13_curve {cx : CX} (p0 : (Option Nat)) (p1 : Int32) (p2 : Int32) : Sn cx m_X13_curve eJ 0 [(0, vA p0), (1, vI p1), (2, vI p2)] [] (f_X13_curve p0 p1 p2) := by
  refine sn_aload_n (y := m_X13_curve) (pc := 0) dX13_curve_0 rfl ?_
  refine sn_iconst (y := m_X13_curve) (pc := 1) dX13_curve_1 kc_iconst_0 ?_
  refine sn_putI (y := m_X13_curve) (pc := 2) ca_11 rfl fk_X13_46 (Or.inl rfl) rfl dX13_curve_2 ?_
  refine sn_aload_n (y := m_X13_curve) (pc := 5) dX13_curve_5 rfl ?_
  refine sn_iload_n (y := m_X13_curve) (pc := 6) dX13_curve_6 rfl ?_
  refine sn_invV (y := m_X13_curve) (pc := 7) ca_11 (av := [vI p1]) (o := p0) (st := []) dX13_curve_7 lk_X13_381 im_X13_isField se_X13_isField rfl rfl rfl rfl ⟨by decide, by decide⟩ (c_X13_isField cx.1 p0 p1) (fun r1 => ?_)
  refine sn_if_ne (y := m_X13_curve) (pc := 10) (tgt := 20) dX13_curve_10 (by decide) (fun _ => ?_) (fun _ => ?_)
  · refine sn_iload_n (y := m_X13_curve) (pc := 20) dX13_curve_20 rfl ?_
    refine sn_iconst (y := m_X13_curve) (pc := 21) dX13_curve_21 kc_iconst_1 ?_
    refine sn_iconst (y := m_X13_curve) (pc := 22) dX13_curve_22 kc_iconst_4 ?_
    refine sn_invS (y := m_X13_curve) (pc := 23) (av := [vI p2, vI (1 : Int32), vI (4 : Int32)]) (st := []) dX13_curve_23 lk_X13_168 sw_X13_in rfl rfl rfl ⟨by decide, by decide⟩ (c_X13_in cx.1 p2 (1 : Int32) (4 : Int32)) (fun r2 => ?_)
    refine sn_if_ne (y := m_X13_curve) (pc := 26) (tgt := 36) dX13_curve_26 (by decide) (fun _ => ?_) (fun _ => ?_)
    · refine sn_aload_n (y := m_X13_curve) (pc := 36) dX13_curve_36 rfl ?_
      refine sn_getA (y := m_X13_curve) (pc := 37) ca_11 rfl fk_X13_369 (fun _ _ _ => rfl) dX13_curve_37 (fun r3 => ?_)
      refine sn_getA (y := m_X13_curve) (pc := 40) ca_9 rfl fk_X13_259 (fun _ _ _ => rfl) dX13_curve_40 (fun r4 => ?_)
      refine sn_iload_n (y := m_X13_curve) (pc := 43) dX13_curve_43 rfl ?_
      refine sn_aaload (y := m_X13_curve) (pc := 44) dX13_curve_44 (fun r5 => ?_)
      refine sn_astore_n (y := m_X13_curve) (pc := 45) dX13_curve_45 rfl ?_
      refine sn_aload_n (y := m_X13_curve) (pc := 46) dX13_curve_46 rfl ?_
      refine sn_iconst (y := m_X13_curve) (pc := 47) dX13_curve_47 kc_iconst_3 ?_
      refine sn_lconst (y := m_X13_curve) (pc := 48) dX13_curve_48 kc_lconst_1 ?_
      refine sn_invV (y := m_X13_curve) (pc := 49) ca_11 (av := [vI (3 : Int32), vJ (1 : Int64)]) (o := p0) (st := []) dX13_curve_49 lk_X13_297 im_X13_wholeRow se_X13_wholeRow rfl rfl rfl rfl ⟨by decide, by decide⟩ (c_X13_wholeRow cx.1 p0 (3 : Int32) (1 : Int64)) (fun _ => ?_)
      refine sn_iconst (y := m_X13_curve) (pc := 52) dX13_curve_52 kc_iconst_0 ?_
      refine sn_istore (y := m_X13_curve) (pc := 53) dX13_curve_53 rfl ?_
      exact sn_sub rfl (s_X13_curve_l55 p0 p2 r5 (0 : Int32))
    refine sn_aload_n (y := m_X13_curve) (pc := 29) dX13_curve_29 rfl ?_
    refine sn_iconst (y := m_X13_curve) (pc := 30) dX13_curve_30 kc_iconst_2 ?_
    refine sn_invV (y := m_X13_curve) (pc := 31) ca_11 (av := [vI (2 : Int32)]) (o := p0) (st := []) dX13_curve_31 lk_X13_52 im_X13_refused se_X13_refused rfl rfl rfl rfl ⟨by decide, by decide⟩ (c_X13_refused cx.1 p0 (2 : Int32)) (fun r18 => ?_)
    refine sn_i2l (y := m_X13_curve) (pc := 34) dX13_curve_34 ?_
    exact sn_lreturn rfl dX13_curve_35
  refine sn_aload_n (y := m_X13_curve) (pc := 13) dX13_curve_13 rfl ?_
  refine sn_iconst (y := m_X13_curve) (pc := 14) dX13_curve_14 kc_iconst_1 ?_
  refine sn_invV (y := m_X13_curve) (pc := 15) ca_11 (av := [vI (1 : Int32)]) (o := p0) (st := []) dX13_curve_15 lk_X13_52 im_X13_refused se_X13_refused rfl rfl rfl rfl ⟨by decide, by decide⟩ (c_X13_refused cx.1 p0 (1 : Int32)) (fun r19 => ?_)
  refine sn_i2l (y := m_X13_curve) (pc := 18) dX13_curve_18 ?_
  exact sn_lreturn rfl dX13_curve_19
set_option maxRecDepth 100000 in
theorem c_X13_curve (g : Gl) (p0 : (Option Nat)) (p1 : Int32) (p2 : Int32) : Cn g m_X13_curve eJ [vA p0, vI p1, vI p2] (mCk 11 p0 (f_X13_curve p0 p1 p2)) := cn_of_sn (by decide +kernel) rfl (fun r => ⟨r, rfl⟩) rfl (fun _ _ => sn_ck (s_X13_curve p0 p1 p2))
/-! X13_isOddPrime -/
def f_X13_isOddPrime (p0 : Int32) : Mo Int32 :=
  mBd (f_X13_in p0 (3 : Int32) (199 : Int32)) (fun r1 => (if r1 = 0 then mRt (0 : Int32) else mBd (f_X13_isPrime p0) (fun r2 => (if r2 = 0 then mRt (0 : Int32) else mRt (1 : Int32)))))
set_option maxRecDepth 100000 in
theorem s_X13_isOddPrime {cx : CX} (p0 : Int32) : Sn cx m_X13_isOddPrime eI 0 [(0, vI p0)] [] (f_X13_isOddPrime p0) := by
  refine sn_iload_n (y := m_X13_isOddPrime) (pc := 0) dX13_isOddPrime_0 rfl ?_
  refine sn_iconst (y := m_X13_isOddPrime) (pc := 1) dX13_isOddPrime_1 kc_iconst_3 ?_
  refine sn_sipush (y := m_X13_isOddPrime) (pc := 2) dX13_isOddPrime_2 kc_sipush_199 ?_
  refine sn_invS (y := m_X13_isOddPrime) (pc := 5) (av := [vI p0, vI (3 : Int32), vI (199 : Int32)]) (st := []) dX13_isOddPrime_5 lk_X13_168 sw_X13_in rfl rfl rfl ⟨by decide, by decide⟩ (c_X13_in cx.1 p0 (3 : Int32) (199 : Int32)) (fun r1 => ?_)
  refine sn_if_eq (y := m_X13_isOddPrime) (pc := 8) (tgt := 22) dX13_isOddPrime_8 (by decide) (fun _ => ?_) (fun _ => ?_)
  · refine sn_iconst (y := m_X13_isOddPrime) (pc := 22) dX13_isOddPrime_22 kc_iconst_0 ?_
    exact sn_zreturnC (by decide) rfl dX13_isOddPrime_23
  refine sn_iload_n (y := m_X13_isOddPrime) (pc := 11) dX13_isOddPrime_11 rfl ?_
  refine sn_invS (y := m_X13_isOddPrime) (pc := 12) (av := [vI p0]) (st := []) dX13_isOddPrime_12 lk_X13_256 sw_X13_isPrime rfl rfl rfl ⟨by decide, by decide⟩ (c_X13_isPrime cx.1 p0) (fun r2 => ?_)
  refine sn_if_eq (y := m_X13_isOddPrime) (pc := 15) (tgt := 22) dX13_isOddPrime_15 (by decide) (fun _ => ?_) (fun _ => ?_)
  · refine sn_iconst (y := m_X13_isOddPrime) (pc := 22) dX13_isOddPrime_22 kc_iconst_0 ?_
    exact sn_zreturnC (by decide) rfl dX13_isOddPrime_23
  refine sn_iconst (y := m_X13_isOddPrime) (pc := 18) dX13_isOddPrime_18 kc_iconst_1 ?_
  refine sn_goto (y := m_X13_isOddPrime) (pc := 19) (tgt := 23) dX13_isOddPrime_19 (by decide) ?_
  exact sn_zreturnC (by decide) rfl dX13_isOddPrime_23
set_option maxRecDepth 100000 in
theorem c_X13_isOddPrime (g : Gl) (p0 : Int32) : Cn g m_X13_isOddPrime eI [vI p0] (f_X13_isOddPrime p0) := cn_of_sn (by decide +kernel) rfl (fun r => ⟨r, rfl⟩) rfl (fun _ _ => s_X13_isOddPrime p0)
/-! X13_signOf -/
def f_X13_signOf_b16 (x1 : Int32) (x2 : Int32) (k16 : Int32 → Mo Int32) (x3 : Int32) : Mo Int32 :=
  (if x3 ≥ x1 then mRt (-1 : Int32) else mRq (¬ x1 = 0) ((if ¬ (irem (x3 * x3) x1) = x2 then k16 (x3 + 1) else mRt (1 : Int32))))
def f_X13_signOf_l16 (x1 : Int32) (x2 : Int32) : Int32 → Mo Int32 := lq1 (f_X13_signOf_b16 x1 x2) fuel
set_option maxRecDepth 100000 in
theorem s_X13_signOf_b16 {cx : CX} (x1 : Int32) (x2 : Int32) {k16 : Int32 → Mo Int32} (hk16 : ∀ (z3 : Int32), Sn cx m_X13_signOf eI 16 [(3, vI z3), (1, vI x1), (2, vI x2)] [] (k16 z3)) (x3 : Int32) : Sn cx m_X13_signOf eI 16 [(3, vI x3), (1, vI x1), (2, vI x2)] [] (f_X13_signOf_b16 x1 x2 k16 x3) := by
  refine sn_iload_n (y := m_X13_signOf) (pc := 16) dX13_signOf_16 rfl ?_
  refine sn_iload_n (y := m_X13_signOf) (pc := 17) dX13_signOf_17 rfl ?_
  refine sn_icmp_ge (y := m_X13_signOf) (pc := 18) (tgt := 38) dX13_signOf_18 (by decide) (fun _ => ?_) (fun _ => ?_)
  · refine sn_iconst (y := m_X13_signOf) (pc := 38) dX13_signOf_38 kc_iconst_m1 ?_
    exact sn_ireturn rfl dX13_signOf_39
  refine sn_iload_n (y := m_X13_signOf) (pc := 21) dX13_signOf_21 rfl ?_
  refine sn_iload_n (y := m_X13_signOf) (pc := 22) dX13_signOf_22 rfl ?_
  refine sn_imul (y := m_X13_signOf) (pc := 23) dX13_signOf_23 ?_
  refine sn_iload_n (y := m_X13_signOf) (pc := 24) dX13_signOf_24 rfl ?_
  refine sn_irem (y := m_X13_signOf) (pc := 25) dX13_signOf_25 ?_
  refine sn_iload_n (y := m_X13_signOf) (pc := 26) dX13_signOf_26 rfl ?_
  refine sn_icmp_ne (y := m_X13_signOf) (pc := 27) (tgt := 32) dX13_signOf_27 (by decide) (fun _ => ?_) (fun _ => ?_)
  · refine sn_iinc (y := m_X13_signOf) (pc := 32) (v := x3 + 1) dX13_signOf_32 rfl (by rfl) rfl ?_
    refine sn_goto (y := m_X13_signOf) (pc := 35) (tgt := 16) dX13_signOf_35 (by decide) ?_
    exact sn_sub rfl (hk16 (x3 + 1))
  refine sn_iconst (y := m_X13_signOf) (pc := 30) dX13_signOf_30 kc_iconst_1 ?_
  exact sn_ireturn rfl dX13_signOf_31
set_option maxRecDepth 100000 in
theorem s_X13_signOf_l16 {cx : CX} (x1 : Int32) (x2 : Int32) (x3 : Int32) : Sn cx m_X13_signOf eI 16 [(3, vI x3), (1, vI x1), (2, vI x2)] [] (f_X13_signOf_l16 x1 x2 x3) :=
  sn_lq1 (L := fun x3 => [(3, vI x3), (1, vI x1), (2, vI x2)]) (fun k hk x3 => s_X13_signOf_b16 x1 x2 hk x3) fuel x3
def f_X13_signOf (p0 : Int32) (p1 : Int32) : Mo Int32 :=
  mRq (¬ p1 = 0) (mRq (¬ p1 = 0) (mNm (irem ((irem p0 p1) + p1) p1) (fun n1 => (if ¬ n1 = 0 then f_X13_signOf_l16 p1 n1 (1 : Int32) else mRt (0 : Int32)))))
set_option maxRecDepth 100000 in
theorem s_X13_signOf {cx : CX} (p0 : Int32) (p1 : Int32) : Sn cx m_X13_signOf eI 0 [(0, vI p0), (1, vI p1)] [] (f_X13_signOf p0 p1) := by
  refine sn_iload_n (y := m_X13_signOf) (pc := 0) dX13_signOf_0 rfl ?_
  refine sn_iload_n (y := m_X13_signOf) (pc := 1) dX13_signOf_1 rfl ?_
  refine sn_irem (y := m_X13_signOf) (pc := 2) dX13_signOf_2 ?_
  refine sn_iload_n (y := m_X13_signOf) (pc := 3) dX13_signOf_3 rfl ?_
  refine sn_iadd (y := m_X13_signOf) (pc := 4) dX13_signOf_4 ?_
  refine sn_iload_n (y := m_X13_signOf) (pc := 5) dX13_signOf_5 rfl ?_
  refine sn_irem (y := m_X13_signOf) (pc := 6) dX13_signOf_6 ?_
  refine sn_istore_nM (y := m_X13_signOf) (pc := 7) dX13_signOf_7 rfl (fun n1 => ?_)
  refine sn_iload_n (y := m_X13_signOf) (pc := 8) dX13_signOf_8 rfl ?_
  refine sn_if_ne (y := m_X13_signOf) (pc := 9) (tgt := 14) dX13_signOf_9 (by decide) (fun _ => ?_) (fun _ => ?_)
  · refine sn_iconst (y := m_X13_signOf) (pc := 14) dX13_signOf_14 kc_iconst_1 ?_
    refine sn_istore_n (y := m_X13_signOf) (pc := 15) dX13_signOf_15 rfl ?_
    exact sn_sub rfl (s_X13_signOf_l16 p1 n1 (1 : Int32))
  refine sn_iconst (y := m_X13_signOf) (pc := 12) dX13_signOf_12 kc_iconst_0 ?_
  exact sn_ireturn rfl dX13_signOf_13
set_option maxRecDepth 100000 in
theorem c_X13_signOf (g : Gl) (p0 : Int32) (p1 : Int32) : Cn g m_X13_signOf eI [vI p0, vI p1] (f_X13_signOf p0 p1) := cn_of_sn (by decide +kernel) rfl (fun r => ⟨r, rfl⟩) rfl (fun _ _ => s_X13_signOf p0 p1)
/-! X13_sign -/
def f_X13_sign (p0 : (Option Nat)) (p1 : Int32) (p2 : Int32) : Mo Int32 :=
  mBd (mPutI 11 0 p0 (0 : Int32)) (fun _ => mBd (f_X13_isOddPrime p2) (fun r1 => (if r1 = 0 then mBd (mCk 11 p0 (f_X13_refusedBy p0 (1 : Int32) (-2 : Int32))) (fun r2 => mRt r2) else mBd (f_X13_signOf p1 p2) (fun r3 => mBd (mCk 11 p0 (f_X13_good p0 r3)) (fun r4 => mRt r4)))))
set_option maxRecDepth 100000 in
theorem s_X13_sign {cx : CX} (p0 : (Option Nat)) (p1 : Int32) (p2 : Int32) : Sn cx m_X13_sign eI 0 [(0, vA p0), (1, vI p1), (2, vI p2)] [] (f_X13_sign p0 p1 p2) := by
  refine sn_aload_n (y := m_X13_sign) (pc := 0) dX13_sign_0 rfl ?_
  refine sn_iconst (y := m_X13_sign) (pc := 1) dX13_sign_1 kc_iconst_0 ?_
  refine sn_putI (y := m_X13_sign) (pc := 2) ca_11 rfl fk_X13_46 (Or.inl rfl) rfl dX13_sign_2 ?_
  refine sn_iload_n (y := m_X13_sign) (pc := 5) dX13_sign_5 rfl ?_
  refine sn_invS (y := m_X13_sign) (pc := 6) (av := [vI p2]) (st := []) dX13_sign_6 lk_X13_426 sw_X13_isOddPrime rfl rfl rfl ⟨by decide, by decide⟩ (c_X13_isOddPrime cx.1 p2) (fun r1 => ?_)
  refine sn_if_eq (y := m_X13_sign) (pc := 9) (tgt := 24) dX13_sign_9 (by decide) (fun _ => ?_) (fun _ => ?_)
  · refine sn_aload_n (y := m_X13_sign) (pc := 24) dX13_sign_24 rfl ?_
    refine sn_iconst (y := m_X13_sign) (pc := 25) dX13_sign_25 kc_iconst_1 ?_
    refine sn_bipush (y := m_X13_sign) (pc := 26) dX13_sign_26 kc_bipush_m2 ?_
    refine sn_invV (y := m_X13_sign) (pc := 28) ca_11 (av := [vI (1 : Int32), vI (-2 : Int32)]) (o := p0) (st := []) dX13_sign_28 lk_X13_391 im_X13_refusedBy se_X13_refusedBy rfl rfl rfl rfl ⟨by decide, by decide⟩ (c_X13_refusedBy cx.1 p0 (1 : Int32) (-2 : Int32)) (fun r2 => ?_)
    exact sn_ireturn rfl dX13_sign_31
  refine sn_aload_n (y := m_X13_sign) (pc := 12) dX13_sign_12 rfl ?_
  refine sn_iload_n (y := m_X13_sign) (pc := 13) dX13_sign_13 rfl ?_
  refine sn_iload_n (y := m_X13_sign) (pc := 14) dX13_sign_14 rfl ?_
  refine sn_invS (y := m_X13_sign) (pc := 15) (av := [vI p1, vI p2]) (st := [vA p0]) dX13_sign_15 lk_X13_429 sw_X13_signOf rfl rfl rfl ⟨by decide, by decide⟩ (c_X13_signOf cx.1 p1 p2) (fun r3 => ?_)
  refine sn_invV (y := m_X13_sign) (pc := 18) ca_11 (av := [vI r3]) (o := p0) (st := []) dX13_sign_18 lk_X13_56 im_X13_good se_X13_good rfl rfl rfl rfl ⟨by decide, by decide⟩ (c_X13_good cx.1 p0 r3) (fun r4 => ?_)
  refine sn_goto (y := m_X13_sign) (pc := 21) (tgt := 31) dX13_sign_21 (by decide) ?_
  exact sn_ireturn rfl dX13_sign_31
set_option maxRecDepth 100000 in
theorem c_X13_sign (g : Gl) (p0 : (Option Nat)) (p1 : Int32) (p2 : Int32) : Cn g m_X13_sign eI [vA p0, vI p1, vI p2] (mCk 11 p0 (f_X13_sign p0 p1 p2)) := cn_of_sn (by decide +kernel) rfl (fun r => ⟨r, rfl⟩) rfl (fun _ _ => sn_ck (s_X13_sign p0 p1 p2))
/-! X13_both -/
def f_X13_both (p0 : (Option Nat)) (p1 : Int32) (p2 : Int32) : Mo Int32 :=
  mBd (mPutI 11 0 p0 (0 : Int32)) (fun _ => mBd (f_X13_isOddPrime p1) (fun r1 => (if r1 = 0 then mBd (mCk 11 p0 (f_X13_refusedBy p0 (1 : Int32) (-2 : Int32))) (fun r2 => mRt r2) else mBd (f_X13_isOddPrime p2) (fun r3 => (if r3 = 0 then mBd (mCk 11 p0 (f_X13_refusedBy p0 (1 : Int32) (-2 : Int32))) (fun r4 => mRt r4) else (if p1 = p2 then mBd (mCk 11 p0 (f_X13_refusedBy p0 (1 : Int32) (-2 : Int32))) (fun r5 => mRt r5) else mBd (f_X13_signOf p1 p2) (fun r6 => mBd (f_X13_signOf p2 p1) (fun r7 => mBd (mCk 11 p0 (f_X13_good p0 (r6 * r7))) (fun r8 => mRt r8)))))))))
set_option maxRecDepth 100000 in
theorem s_X13_both {cx : CX} (p0 : (Option Nat)) (p1 : Int32) (p2 : Int32) : Sn cx m_X13_both eI 0 [(0, vA p0), (1, vI p1), (2, vI p2)] [] (f_X13_both p0 p1 p2) := by
  refine sn_aload_n (y := m_X13_both) (pc := 0) dX13_both_0 rfl ?_
  refine sn_iconst (y := m_X13_both) (pc := 1) dX13_both_1 kc_iconst_0 ?_
  refine sn_putI (y := m_X13_both) (pc := 2) ca_11 rfl fk_X13_46 (Or.inl rfl) rfl dX13_both_2 ?_
  refine sn_iload_n (y := m_X13_both) (pc := 5) dX13_both_5 rfl ?_
  refine sn_invS (y := m_X13_both) (pc := 6) (av := [vI p1]) (st := []) dX13_both_6 lk_X13_426 sw_X13_isOddPrime rfl rfl rfl ⟨by decide, by decide⟩ (c_X13_isOddPrime cx.1 p1) (fun r1 => ?_)
  refine sn_if_eq (y := m_X13_both) (pc := 9) (tgt := 42) dX13_both_9 (by decide) (fun _ => ?_) (fun _ => ?_)
  · refine sn_aload_n (y := m_X13_both) (pc := 42) dX13_both_42 rfl ?_
    refine sn_iconst (y := m_X13_both) (pc := 43) dX13_both_43 kc_iconst_1 ?_
    refine sn_bipush (y := m_X13_both) (pc := 44) dX13_both_44 kc_bipush_m2 ?_
    refine sn_invV (y := m_X13_both) (pc := 46) ca_11 (av := [vI (1 : Int32), vI (-2 : Int32)]) (o := p0) (st := []) dX13_both_46 lk_X13_391 im_X13_refusedBy se_X13_refusedBy rfl rfl rfl rfl ⟨by decide, by decide⟩ (c_X13_refusedBy cx.1 p0 (1 : Int32) (-2 : Int32)) (fun r2 => ?_)
    exact sn_ireturn rfl dX13_both_49
  refine sn_iload_n (y := m_X13_both) (pc := 12) dX13_both_12 rfl ?_
  refine sn_invS (y := m_X13_both) (pc := 13) (av := [vI p2]) (st := []) dX13_both_13 lk_X13_426 sw_X13_isOddPrime rfl rfl rfl ⟨by decide, by decide⟩ (c_X13_isOddPrime cx.1 p2) (fun r3 => ?_)
  refine sn_if_eq (y := m_X13_both) (pc := 16) (tgt := 42) dX13_both_16 (by decide) (fun _ => ?_) (fun _ => ?_)
  · refine sn_aload_n (y := m_X13_both) (pc := 42) dX13_both_42 rfl ?_
    refine sn_iconst (y := m_X13_both) (pc := 43) dX13_both_43 kc_iconst_1 ?_
    refine sn_bipush (y := m_X13_both) (pc := 44) dX13_both_44 kc_bipush_m2 ?_
    refine sn_invV (y := m_X13_both) (pc := 46) ca_11 (av := [vI (1 : Int32), vI (-2 : Int32)]) (o := p0) (st := []) dX13_both_46 lk_X13_391 im_X13_refusedBy se_X13_refusedBy rfl rfl rfl rfl ⟨by decide, by decide⟩ (c_X13_refusedBy cx.1 p0 (1 : Int32) (-2 : Int32)) (fun r4 => ?_)
    exact sn_ireturn rfl dX13_both_49
  refine sn_iload_n (y := m_X13_both) (pc := 19) dX13_both_19 rfl ?_
  refine sn_iload_n (y := m_X13_both) (pc := 20) dX13_both_20 rfl ?_
  refine sn_icmp_eq (y := m_X13_both) (pc := 21) (tgt := 42) dX13_both_21 (by decide) (fun _ => ?_) (fun _ => ?_)
  · refine sn_aload_n (y := m_X13_both) (pc := 42) dX13_both_42 rfl ?_
    refine sn_iconst (y := m_X13_both) (pc := 43) dX13_both_43 kc_iconst_1 ?_
    refine sn_bipush (y := m_X13_both) (pc := 44) dX13_both_44 kc_bipush_m2 ?_
    refine sn_invV (y := m_X13_both) (pc := 46) ca_11 (av := [vI (1 : Int32), vI (-2 : Int32)]) (o := p0) (st := []) dX13_both_46 lk_X13_391 im_X13_refusedBy se_X13_refusedBy rfl rfl rfl rfl ⟨by decide, by decide⟩ (c_X13_refusedBy cx.1 p0 (1 : Int32) (-2 : Int32)) (fun r5 => ?_)
    exact sn_ireturn rfl dX13_both_49
  refine sn_aload_n (y := m_X13_both) (pc := 24) dX13_both_24 rfl ?_
  refine sn_iload_n (y := m_X13_both) (pc := 25) dX13_both_25 rfl ?_
  refine sn_iload_n (y := m_X13_both) (pc := 26) dX13_both_26 rfl ?_
  refine sn_invS (y := m_X13_both) (pc := 27) (av := [vI p1, vI p2]) (st := [vA p0]) dX13_both_27 lk_X13_429 sw_X13_signOf rfl rfl rfl ⟨by decide, by decide⟩ (c_X13_signOf cx.1 p1 p2) (fun r6 => ?_)
  refine sn_iload_n (y := m_X13_both) (pc := 30) dX13_both_30 rfl ?_
  refine sn_iload_n (y := m_X13_both) (pc := 31) dX13_both_31 rfl ?_
  refine sn_invS (y := m_X13_both) (pc := 32) (av := [vI p2, vI p1]) (st := [vI r6, vA p0]) dX13_both_32 lk_X13_429 sw_X13_signOf rfl rfl rfl ⟨by decide, by decide⟩ (c_X13_signOf cx.1 p2 p1) (fun r7 => ?_)
  refine sn_imul (y := m_X13_both) (pc := 35) dX13_both_35 ?_
  refine sn_invV (y := m_X13_both) (pc := 36) ca_11 (av := [vI (r6 * r7)]) (o := p0) (st := []) dX13_both_36 lk_X13_56 im_X13_good se_X13_good rfl rfl rfl rfl ⟨by decide, by decide⟩ (c_X13_good cx.1 p0 (r6 * r7)) (fun r8 => ?_)
  refine sn_goto (y := m_X13_both) (pc := 39) (tgt := 49) dX13_both_39 (by decide) ?_
  exact sn_ireturn rfl dX13_both_49
set_option maxRecDepth 100000 in
theorem c_X13_both (g : Gl) (p0 : (Option Nat)) (p1 : Int32) (p2 : Int32) : Cn g m_X13_both eI [vA p0, vI p1, vI p2] (mCk 11 p0 (f_X13_both p0 p1 p2)) := cn_of_sn (by decide +kernel) rfl (fun r => ⟨r, rfl⟩) rfl (fun _ _ => sn_ck (s_X13_both p0 p1 p2))
/-! X13_isSquare -/
def f_X13_isSquare_b2 (x0 : Int32) (k2 : Int32 → Mo Int32) (x1 : Int32) : Mo Int32 :=
  (if (x1 * x1) ≥ x0 then (if ¬ (x1 * x1) = x0 then mRt (0 : Int32) else mRt (1 : Int32)) else k2 (x1 + 1))
def f_X13_isSquare_l2 (x0 : Int32) : Int32 → Mo Int32 := lq1 (f_X13_isSquare_b2 x0) fuel
set_option maxRecDepth 100000 in
theorem s_X13_isSquare_b2 {cx : CX} (x0 : Int32) {k2 : Int32 → Mo Int32} (hk2 : ∀ (z1 : Int32), Sn cx m_X13_isSquare eI 2 [(1, vI z1), (0, vI x0)] [] (k2 z1)) (x1 : Int32) : Sn cx m_X13_isSquare eI 2 [(1, vI x1), (0, vI x0)] [] (f_X13_isSquare_b2 x0 k2 x1) := by
  refine sn_iload_n (y := m_X13_isSquare) (pc := 2) dX13_isSquare_2 rfl ?_
  refine sn_iload_n (y := m_X13_isSquare) (pc := 3) dX13_isSquare_3 rfl ?_
  refine sn_imul (y := m_X13_isSquare) (pc := 4) dX13_isSquare_4 ?_
  refine sn_iload_n (y := m_X13_isSquare) (pc := 5) dX13_isSquare_5 rfl ?_
  refine sn_icmp_ge (y := m_X13_isSquare) (pc := 6) (tgt := 15) dX13_isSquare_6 (by decide) (fun _ => ?_) (fun _ => ?_)
  · refine sn_iload_n (y := m_X13_isSquare) (pc := 15) dX13_isSquare_15 rfl ?_
    refine sn_iload_n (y := m_X13_isSquare) (pc := 16) dX13_isSquare_16 rfl ?_
    refine sn_imul (y := m_X13_isSquare) (pc := 17) dX13_isSquare_17 ?_
    refine sn_iload_n (y := m_X13_isSquare) (pc := 18) dX13_isSquare_18 rfl ?_
    refine sn_icmp_ne (y := m_X13_isSquare) (pc := 19) (tgt := 26) dX13_isSquare_19 (by decide) (fun _ => ?_) (fun _ => ?_)
    · refine sn_iconst (y := m_X13_isSquare) (pc := 26) dX13_isSquare_26 kc_iconst_0 ?_
      exact sn_zreturnC (by decide) rfl dX13_isSquare_27
    refine sn_iconst (y := m_X13_isSquare) (pc := 22) dX13_isSquare_22 kc_iconst_1 ?_
    refine sn_goto (y := m_X13_isSquare) (pc := 23) (tgt := 27) dX13_isSquare_23 (by decide) ?_
    exact sn_zreturnC (by decide) rfl dX13_isSquare_27
  refine sn_iinc (y := m_X13_isSquare) (pc := 9) (v := x1 + 1) dX13_isSquare_9 rfl (by rfl) rfl ?_
  refine sn_goto (y := m_X13_isSquare) (pc := 12) (tgt := 2) dX13_isSquare_12 (by decide) ?_
  exact sn_sub rfl (hk2 (x1 + 1))
set_option maxRecDepth 100000 in
theorem s_X13_isSquare_l2 {cx : CX} (x0 : Int32) (x1 : Int32) : Sn cx m_X13_isSquare eI 2 [(1, vI x1), (0, vI x0)] [] (f_X13_isSquare_l2 x0 x1) :=
  sn_lq1 (L := fun x1 => [(1, vI x1), (0, vI x0)]) (fun k hk x1 => s_X13_isSquare_b2 x0 hk x1) fuel x1
def f_X13_isSquare (p0 : Int32) : Mo Int32 :=
  f_X13_isSquare_l2 p0 (0 : Int32)
set_option maxRecDepth 100000 in
theorem s_X13_isSquare {cx : CX} (p0 : Int32) : Sn cx m_X13_isSquare eI 0 [(0, vI p0)] [] (f_X13_isSquare p0) := by
  refine sn_iconst (y := m_X13_isSquare) (pc := 0) dX13_isSquare_0 kc_iconst_0 ?_
  refine sn_istore_n (y := m_X13_isSquare) (pc := 1) dX13_isSquare_1 rfl ?_
  exact sn_sub rfl (s_X13_isSquare_l2 p0 (0 : Int32))
set_option maxRecDepth 100000 in
theorem c_X13_isSquare (g : Gl) (p0 : Int32) : Cn g m_X13_isSquare eI [vI p0] (f_X13_isSquare p0) := cn_of_sn (by decide +kernel) rfl (fun r => ⟨r, rfl⟩) rfl (fun _ _ => s_X13_isSquare p0)
/-! X13_form -/
def f_X13_form_b36 (x0 : (Option Nat)) (x1 : Int32) (x2 : Int32) (k36 : Int32 → Mo Int32) (x3 : Int32) : Mo Int32 :=
  (if ((x2 * x3) * x3) > x1 then mBd (mCk 11 x0 (f_X13_good x0 (-2 : Int32))) (fun r3 => mRt r3) else mBd (f_X13_isSquare (x1 - ((x2 * x3) * x3))) (fun r4 => (if r4 = 0 then k36 (x3 + 1) else mBd (mCk 11 x0 (f_X13_good x0 x3)) (fun r5 => mRt r5))))
def f_X13_form_l36 (x0 : (Option Nat)) (x1 : Int32) (x2 : Int32) : Int32 → Mo Int32 := lq1 (f_X13_form_b36 x0 x1 x2) fuel
set_option maxRecDepth 100000 in
theorem s_X13_form_b36 {cx : CX} (x0 : (Option Nat)) (x1 : Int32) (x2 : Int32) {k36 : Int32 → Mo Int32} (hk36 : ∀ (z3 : Int32), Sn cx m_X13_form eI 36 [(3, vI z3), (0, vA x0), (1, vI x1), (2, vI x2)] [] (k36 z3)) (x3 : Int32) : Sn cx m_X13_form eI 36 [(3, vI x3), (0, vA x0), (1, vI x1), (2, vI x2)] [] (f_X13_form_b36 x0 x1 x2 k36 x3) := by
  refine sn_iload_n (y := m_X13_form) (pc := 36) dX13_form_36 rfl ?_
  refine sn_iload_n (y := m_X13_form) (pc := 37) dX13_form_37 rfl ?_
  refine sn_imul (y := m_X13_form) (pc := 38) dX13_form_38 ?_
  refine sn_iload_n (y := m_X13_form) (pc := 39) dX13_form_39 rfl ?_
  refine sn_imul (y := m_X13_form) (pc := 40) dX13_form_40 ?_
  refine sn_iload_n (y := m_X13_form) (pc := 41) dX13_form_41 rfl ?_
  refine sn_icmp_gt (y := m_X13_form) (pc := 42) (tgt := 70) dX13_form_42 (by decide) (fun _ => ?_) (fun _ => ?_)
  · refine sn_aload_n (y := m_X13_form) (pc := 70) dX13_form_70 rfl ?_
    refine sn_bipush (y := m_X13_form) (pc := 71) dX13_form_71 kc_bipush_m2 ?_
    refine sn_invV (y := m_X13_form) (pc := 73) ca_11 (av := [vI (-2 : Int32)]) (o := x0) (st := []) dX13_form_73 lk_X13_56 im_X13_good se_X13_good rfl rfl rfl rfl ⟨by decide, by decide⟩ (c_X13_good cx.1 x0 (-2 : Int32)) (fun r3 => ?_)
    exact sn_ireturn rfl dX13_form_76
  refine sn_iload_n (y := m_X13_form) (pc := 45) dX13_form_45 rfl ?_
  refine sn_iload_n (y := m_X13_form) (pc := 46) dX13_form_46 rfl ?_
  refine sn_iload_n (y := m_X13_form) (pc := 47) dX13_form_47 rfl ?_
  refine sn_imul (y := m_X13_form) (pc := 48) dX13_form_48 ?_
  refine sn_iload_n (y := m_X13_form) (pc := 49) dX13_form_49 rfl ?_
  refine sn_imul (y := m_X13_form) (pc := 50) dX13_form_50 ?_
  refine sn_isub (y := m_X13_form) (pc := 51) dX13_form_51 ?_
  refine sn_invS (y := m_X13_form) (pc := 52) (av := [vI (x1 - ((x2 * x3) * x3))]) (st := []) dX13_form_52 lk_X13_432 sw_X13_isSquare rfl rfl rfl ⟨by decide, by decide⟩ (c_X13_isSquare cx.1 (x1 - ((x2 * x3) * x3))) (fun r4 => ?_)
  refine sn_if_eq (y := m_X13_form) (pc := 55) (tgt := 64) dX13_form_55 (by decide) (fun _ => ?_) (fun _ => ?_)
  · refine sn_iinc (y := m_X13_form) (pc := 64) (v := x3 + 1) dX13_form_64 rfl (by rfl) rfl ?_
    refine sn_goto (y := m_X13_form) (pc := 67) (tgt := 36) dX13_form_67 (by decide) ?_
    exact sn_sub rfl (hk36 (x3 + 1))
  refine sn_aload_n (y := m_X13_form) (pc := 58) dX13_form_58 rfl ?_
  refine sn_iload_n (y := m_X13_form) (pc := 59) dX13_form_59 rfl ?_
  refine sn_invV (y := m_X13_form) (pc := 60) ca_11 (av := [vI x3]) (o := x0) (st := []) dX13_form_60 lk_X13_56 im_X13_good se_X13_good rfl rfl rfl rfl ⟨by decide, by decide⟩ (c_X13_good cx.1 x0 x3) (fun r5 => ?_)
  exact sn_ireturn rfl dX13_form_63
set_option maxRecDepth 100000 in
theorem s_X13_form_l36 {cx : CX} (x0 : (Option Nat)) (x1 : Int32) (x2 : Int32) (x3 : Int32) : Sn cx m_X13_form eI 36 [(3, vI x3), (0, vA x0), (1, vI x1), (2, vI x2)] [] (f_X13_form_l36 x0 x1 x2 x3) :=
  sn_lq1 (L := fun x3 => [(3, vI x3), (0, vA x0), (1, vI x1), (2, vI x2)]) (fun k hk x3 => s_X13_form_b36 x0 x1 x2 hk x3) fuel x3
def f_X13_form (p0 : (Option Nat)) (p1 : Int32) (p2 : Int32) : Mo Int32 :=
  mBd (mPutI 11 0 p0 (0 : Int32)) (fun _ => mBd (f_X13_isOddPrime p1) (fun r1 => (if ¬ r1 = 0 then mBd (f_X13_in p2 (1 : Int32) (99 : Int32)) (fun r2 => (if ¬ r2 = 0 then f_X13_form_l36 p0 p1 p2 (0 : Int32) else mBd (mCk 11 p0 (f_X13_refused p0 (2 : Int32))) (fun r6 => mRt r6))) else mBd (mCk 11 p0 (f_X13_refused p0 (1 : Int32))) (fun r7 => mRt r7))))
set_option maxRecDepth 100000 in
theorem s_X13_form {cx : CX} (p0 : (Option Nat)) (p1 : Int32) (p2 : Int32) : Sn cx m_X13_form eI 0 [(0, vA p0), (1, vI p1), (2, vI p2)] [] (f_X13_form p0 p1 p2) := by
  refine sn_aload_n (y := m_X13_form) (pc := 0) dX13_form_0 rfl ?_
  refine sn_iconst (y := m_X13_form) (pc := 1) dX13_form_1 kc_iconst_0 ?_
  refine sn_putI (y := m_X13_form) (pc := 2) ca_11 rfl fk_X13_46 (Or.inl rfl) rfl dX13_form_2 ?_
  refine sn_iload_n (y := m_X13_form) (pc := 5) dX13_form_5 rfl ?_
  refine sn_invS (y := m_X13_form) (pc := 6) (av := [vI p1]) (st := []) dX13_form_6 lk_X13_426 sw_X13_isOddPrime rfl rfl rfl ⟨by decide, by decide⟩ (c_X13_isOddPrime cx.1 p1) (fun r1 => ?_)
  refine sn_if_ne (y := m_X13_form) (pc := 9) (tgt := 18) dX13_form_9 (by decide) (fun _ => ?_) (fun _ => ?_)
  · refine sn_iload_n (y := m_X13_form) (pc := 18) dX13_form_18 rfl ?_
    refine sn_iconst (y := m_X13_form) (pc := 19) dX13_form_19 kc_iconst_1 ?_
    refine sn_bipush (y := m_X13_form) (pc := 20) dX13_form_20 kc_bipush_99 ?_
    refine sn_invS (y := m_X13_form) (pc := 22) (av := [vI p2, vI (1 : Int32), vI (99 : Int32)]) (st := []) dX13_form_22 lk_X13_168 sw_X13_in rfl rfl rfl ⟨by decide, by decide⟩ (c_X13_in cx.1 p2 (1 : Int32) (99 : Int32)) (fun r2 => ?_)
    refine sn_if_ne (y := m_X13_form) (pc := 25) (tgt := 34) dX13_form_25 (by decide) (fun _ => ?_) (fun _ => ?_)
    · refine sn_iconst (y := m_X13_form) (pc := 34) dX13_form_34 kc_iconst_0 ?_
      refine sn_istore_n (y := m_X13_form) (pc := 35) dX13_form_35 rfl ?_
      exact sn_sub rfl (s_X13_form_l36 p0 p1 p2 (0 : Int32))
    refine sn_aload_n (y := m_X13_form) (pc := 28) dX13_form_28 rfl ?_
    refine sn_iconst (y := m_X13_form) (pc := 29) dX13_form_29 kc_iconst_2 ?_
    refine sn_invV (y := m_X13_form) (pc := 30) ca_11 (av := [vI (2 : Int32)]) (o := p0) (st := []) dX13_form_30 lk_X13_52 im_X13_refused se_X13_refused rfl rfl rfl rfl ⟨by decide, by decide⟩ (c_X13_refused cx.1 p0 (2 : Int32)) (fun r6 => ?_)
    exact sn_ireturn rfl dX13_form_33
  refine sn_aload_n (y := m_X13_form) (pc := 12) dX13_form_12 rfl ?_
  refine sn_iconst (y := m_X13_form) (pc := 13) dX13_form_13 kc_iconst_1 ?_
  refine sn_invV (y := m_X13_form) (pc := 14) ca_11 (av := [vI (1 : Int32)]) (o := p0) (st := []) dX13_form_14 lk_X13_52 im_X13_refused se_X13_refused rfl rfl rfl rfl ⟨by decide, by decide⟩ (c_X13_refused cx.1 p0 (1 : Int32)) (fun r7 => ?_)
  exact sn_ireturn rfl dX13_form_17
set_option maxRecDepth 100000 in
theorem c_X13_form (g : Gl) (p0 : (Option Nat)) (p1 : Int32) (p2 : Int32) : Cn g m_X13_form eI [vA p0, vI p1, vI p2] (mCk 11 p0 (f_X13_form p0 p1 p2)) := cn_of_sn (by decide +kernel) rfl (fun r => ⟨r, rfl⟩) rfl (fun _ _ => sn_ck (s_X13_form p0 p1 p2))
/-! X13_power -/
def f_X13_power (p0 : (Option Nat)) (p1 : Int32) (p2 : Int32) (p3 : Int32) : Mo Int32 :=
  mBd (mPutI 11 0 p0 (0 : Int32)) (fun _ => mBd (mCk 11 p0 (f_X13_isField p0 p1)) (fun r1 => (if ¬ r1 = 0 then mBd (mGetA 11 3 p0) (fun r2 => mBd (mGetA 9 4 r2) (fun r3 => mBd (mLdA 7 r3 p1) (fun r4 => mBd (mGetI 10 0 r4) (fun r5 => mBd (f_X13_in p2 (1 : Int32) (r5 - (1 : Int32))) (fun r6 => (if r6 = 0 then mBd (mCk 11 p0 (f_X13_refused p0 (2 : Int32))) (fun r7 => mRt r7) else mBd (f_X13_in p3 (1 : Int32) (12 : Int32)) (fun r8 => (if ¬ r8 = 0 then mBd (mGetA 11 3 p0) (fun r9 => mBd (mGetA 9 4 r9) (fun r10 => mBd (mLdA 7 r10 p1) (fun r11 => mBd (mGetA 10 4 r11) (fun r12 => mBd (mLdI 1 r12 p2) (fun r13 => mBd (mGetA 11 3 p0) (fun r14 => mBd (mGetA 9 4 r14) (fun r15 => mBd (mLdA 7 r15 p1) (fun r16 => mBd (mGetI 10 0 r16) (fun r17 => mBd (f_X13_divisor (r17 - (1 : Int32)) p3) (fun r18 => mRq (¬ r18 = 0) ((if ¬ (irem r13 r18) = 0 then mBd (mCk 11 p0 (f_X13_good p0 (0 : Int32))) (fun r19 => mRt r19) else mBd (mCk 11 p0 (f_X13_good p0 (1 : Int32))) (fun r20 => mRt r20))))))))))))) else mBd (mCk 11 p0 (f_X13_refused p0 (2 : Int32))) (fun r21 => mRt r21))))))))) else mBd (mCk 11 p0 (f_X13_refused p0 (1 : Int32))) (fun r22 => mRt r22))))
set_option maxRecDepth 100000 in
theorem s_X13_power {cx : CX} (p0 : (Option Nat)) (p1 : Int32) (p2 : Int32) (p3 : Int32) : Sn cx m_X13_power eI 0 [(0, vA p0), (1, vI p1), (2, vI p2), (3, vI p3)] [] (f_X13_power p0 p1 p2 p3) := by
  refine sn_aload_n (y := m_X13_power) (pc := 0) dX13_power_0 rfl ?_
  refine sn_iconst (y := m_X13_power) (pc := 1) dX13_power_1 kc_iconst_0 ?_
  refine sn_putI (y := m_X13_power) (pc := 2) ca_11 rfl fk_X13_46 (Or.inl rfl) rfl dX13_power_2 ?_
  refine sn_aload_n (y := m_X13_power) (pc := 5) dX13_power_5 rfl ?_
  refine sn_iload_n (y := m_X13_power) (pc := 6) dX13_power_6 rfl ?_
  refine sn_invV (y := m_X13_power) (pc := 7) ca_11 (av := [vI p1]) (o := p0) (st := []) dX13_power_7 lk_X13_381 im_X13_isField se_X13_isField rfl rfl rfl rfl ⟨by decide, by decide⟩ (c_X13_isField cx.1 p0 p1) (fun r1 => ?_)
  refine sn_if_ne (y := m_X13_power) (pc := 10) (tgt := 19) dX13_power_10 (by decide) (fun _ => ?_) (fun _ => ?_)
  · refine sn_iload_n (y := m_X13_power) (pc := 19) dX13_power_19 rfl ?_
    refine sn_iconst (y := m_X13_power) (pc := 20) dX13_power_20 kc_iconst_1 ?_
    refine sn_aload_n (y := m_X13_power) (pc := 21) dX13_power_21 rfl ?_
    refine sn_getA (y := m_X13_power) (pc := 22) ca_11 rfl fk_X13_369 (fun _ _ _ => rfl) dX13_power_22 (fun r2 => ?_)
    refine sn_getA (y := m_X13_power) (pc := 25) ca_9 rfl fk_X13_259 (fun _ _ _ => rfl) dX13_power_25 (fun r3 => ?_)
    refine sn_iload_n (y := m_X13_power) (pc := 28) dX13_power_28 rfl ?_
    refine sn_aaload (y := m_X13_power) (pc := 29) dX13_power_29 (fun r4 => ?_)
    refine sn_getI (y := m_X13_power) (pc := 30) ca_10 rfl fk_X13_81 (fun _ _ _ => rfl) dX13_power_30 (fun r5 => ?_)
    refine sn_iconst (y := m_X13_power) (pc := 33) dX13_power_33 kc_iconst_1 ?_
    refine sn_isub (y := m_X13_power) (pc := 34) dX13_power_34 ?_
    refine sn_invS (y := m_X13_power) (pc := 35) (av := [vI p2, vI (1 : Int32), vI (r5 - (1 : Int32))]) (st := []) dX13_power_35 lk_X13_168 sw_X13_in rfl rfl rfl ⟨by decide, by decide⟩ (c_X13_in cx.1 p2 (1 : Int32) (r5 - (1 : Int32))) (fun r6 => ?_)
    refine sn_if_eq (y := m_X13_power) (pc := 38) (tgt := 51) dX13_power_38 (by decide) (fun _ => ?_) (fun _ => ?_)
    · refine sn_aload_n (y := m_X13_power) (pc := 51) dX13_power_51 rfl ?_
      refine sn_iconst (y := m_X13_power) (pc := 52) dX13_power_52 kc_iconst_2 ?_
      refine sn_invV (y := m_X13_power) (pc := 53) ca_11 (av := [vI (2 : Int32)]) (o := p0) (st := []) dX13_power_53 lk_X13_52 im_X13_refused se_X13_refused rfl rfl rfl rfl ⟨by decide, by decide⟩ (c_X13_refused cx.1 p0 (2 : Int32)) (fun r7 => ?_)
      exact sn_ireturn rfl dX13_power_56
    refine sn_iload_n (y := m_X13_power) (pc := 41) dX13_power_41 rfl ?_
    refine sn_iconst (y := m_X13_power) (pc := 42) dX13_power_42 kc_iconst_1 ?_
    refine sn_bipush (y := m_X13_power) (pc := 43) dX13_power_43 kc_bipush_12 ?_
    refine sn_invS (y := m_X13_power) (pc := 45) (av := [vI p3, vI (1 : Int32), vI (12 : Int32)]) (st := []) dX13_power_45 lk_X13_168 sw_X13_in rfl rfl rfl ⟨by decide, by decide⟩ (c_X13_in cx.1 p3 (1 : Int32) (12 : Int32)) (fun r8 => ?_)
    refine sn_if_ne (y := m_X13_power) (pc := 48) (tgt := 57) dX13_power_48 (by decide) (fun _ => ?_) (fun _ => ?_)
    · refine sn_aload_n (y := m_X13_power) (pc := 57) dX13_power_57 rfl ?_
      refine sn_aload_n (y := m_X13_power) (pc := 58) dX13_power_58 rfl ?_
      refine sn_getA (y := m_X13_power) (pc := 59) ca_11 rfl fk_X13_369 (fun _ _ _ => rfl) dX13_power_59 (fun r9 => ?_)
      refine sn_getA (y := m_X13_power) (pc := 62) ca_9 rfl fk_X13_259 (fun _ _ _ => rfl) dX13_power_62 (fun r10 => ?_)
      refine sn_iload_n (y := m_X13_power) (pc := 65) dX13_power_65 rfl ?_
      refine sn_aaload (y := m_X13_power) (pc := 66) dX13_power_66 (fun r11 => ?_)
      refine sn_getA (y := m_X13_power) (pc := 67) ca_10 rfl fk_X13_84 (fun _ _ _ => rfl) dX13_power_67 (fun r12 => ?_)
      refine sn_iload_n (y := m_X13_power) (pc := 70) dX13_power_70 rfl ?_
      refine sn_iaload (y := m_X13_power) (pc := 71) dX13_power_71 (fun r13 => ?_)
      refine sn_aload_n (y := m_X13_power) (pc := 72) dX13_power_72 rfl ?_
      refine sn_getA (y := m_X13_power) (pc := 73) ca_11 rfl fk_X13_369 (fun _ _ _ => rfl) dX13_power_73 (fun r14 => ?_)
      refine sn_getA (y := m_X13_power) (pc := 76) ca_9 rfl fk_X13_259 (fun _ _ _ => rfl) dX13_power_76 (fun r15 => ?_)
      refine sn_iload_n (y := m_X13_power) (pc := 79) dX13_power_79 rfl ?_
      refine sn_aaload (y := m_X13_power) (pc := 80) dX13_power_80 (fun r16 => ?_)
      refine sn_getI (y := m_X13_power) (pc := 81) ca_10 rfl fk_X13_81 (fun _ _ _ => rfl) dX13_power_81 (fun r17 => ?_)
      refine sn_iconst (y := m_X13_power) (pc := 84) dX13_power_84 kc_iconst_1 ?_
      refine sn_isub (y := m_X13_power) (pc := 85) dX13_power_85 ?_
      refine sn_iload_n (y := m_X13_power) (pc := 86) dX13_power_86 rfl ?_
      refine sn_invS (y := m_X13_power) (pc := 87) (av := [vI (r17 - (1 : Int32)), vI p3]) (st := [vI r13, vA p0]) dX13_power_87 lk_X13_435 sw_X13_divisor rfl rfl rfl ⟨by decide, by decide⟩ (c_X13_divisor cx.1 (r17 - (1 : Int32)) p3) (fun r18 => ?_)
      refine sn_irem (y := m_X13_power) (pc := 90) dX13_power_90 ?_
      refine sn_if_ne (y := m_X13_power) (pc := 91) (tgt := 98) dX13_power_91 (by decide) (fun _ => ?_) (fun _ => ?_)
      · refine sn_iconst (y := m_X13_power) (pc := 98) dX13_power_98 kc_iconst_0 ?_
        refine sn_invV (y := m_X13_power) (pc := 99) ca_11 (av := [vI (0 : Int32)]) (o := p0) (st := []) dX13_power_99 lk_X13_56 im_X13_good se_X13_good rfl rfl rfl rfl ⟨by decide, by decide⟩ (c_X13_good cx.1 p0 (0 : Int32)) (fun r19 => ?_)
        exact sn_ireturn rfl dX13_power_102
      refine sn_iconst (y := m_X13_power) (pc := 94) dX13_power_94 kc_iconst_1 ?_
      refine sn_goto (y := m_X13_power) (pc := 95) (tgt := 99) dX13_power_95 (by decide) ?_
      refine sn_invV (y := m_X13_power) (pc := 99) ca_11 (av := [vI (1 : Int32)]) (o := p0) (st := []) dX13_power_99 lk_X13_56 im_X13_good se_X13_good rfl rfl rfl rfl ⟨by decide, by decide⟩ (c_X13_good cx.1 p0 (1 : Int32)) (fun r20 => ?_)
      exact sn_ireturn rfl dX13_power_102
    refine sn_aload_n (y := m_X13_power) (pc := 51) dX13_power_51 rfl ?_
    refine sn_iconst (y := m_X13_power) (pc := 52) dX13_power_52 kc_iconst_2 ?_
    refine sn_invV (y := m_X13_power) (pc := 53) ca_11 (av := [vI (2 : Int32)]) (o := p0) (st := []) dX13_power_53 lk_X13_52 im_X13_refused se_X13_refused rfl rfl rfl rfl ⟨by decide, by decide⟩ (c_X13_refused cx.1 p0 (2 : Int32)) (fun r21 => ?_)
    exact sn_ireturn rfl dX13_power_56
  refine sn_aload_n (y := m_X13_power) (pc := 13) dX13_power_13 rfl ?_
  refine sn_iconst (y := m_X13_power) (pc := 14) dX13_power_14 kc_iconst_1 ?_
  refine sn_invV (y := m_X13_power) (pc := 15) ca_11 (av := [vI (1 : Int32)]) (o := p0) (st := []) dX13_power_15 lk_X13_52 im_X13_refused se_X13_refused rfl rfl rfl rfl ⟨by decide, by decide⟩ (c_X13_refused cx.1 p0 (1 : Int32)) (fun r22 => ?_)
  exact sn_ireturn rfl dX13_power_18
set_option maxRecDepth 100000 in
theorem c_X13_power (g : Gl) (p0 : (Option Nat)) (p1 : Int32) (p2 : Int32) (p3 : Int32) : Cn g m_X13_power eI [vA p0, vI p1, vI p2, vI p3] (mCk 11 p0 (f_X13_power p0 p1 p2 p3)) := cn_of_sn (by decide +kernel) rfl (fun r => ⟨r, rfl⟩) rfl (fun _ _ => sn_ck (s_X13_power p0 p1 p2 p3))
/-! X13_classSums -/
def f_X13_classSums_b41 (x0 : (Option Nat)) (x1 : Int32) (k41 : Int32 → Int32 → Mo Int32) (x2 : Int32) (x3 : Int32) : Mo Int32 :=
  (if x3 ≥ x1 then mRq (¬ x1 = 0) (mBd (mCk 11 x0 (f_X13_good x0 (x2 / x1))) (fun r5 => mRt r5)) else mBd (f_X13_signOf x3 x1) (fun r6 => mNm (x2 - (x3 * r6)) (fun n7 => k41 n7 (x3 + 1))))
def f_X13_classSums_l41 (x0 : (Option Nat)) (x1 : Int32) : Int32 → Int32 → Mo Int32 := lq2 (f_X13_classSums_b41 x0 x1) fuel
set_option maxRecDepth 100000 in
theorem s_X13_classSums_b41 {cx : CX} (x0 : (Option Nat)) (x1 : Int32) {k41 : Int32 → Int32 → Mo Int32} (hk41 : ∀ (z2 : Int32) (z3 : Int32), Sn cx m_X13_classSums eI 41 [(2, vI z2), (3, vI z3), (0, vA x0), (1, vI x1)] [] (k41 z2 z3)) (x2 : Int32) (x3 : Int32) : Sn cx m_X13_classSums eI 41 [(2, vI x2), (3, vI x3), (0, vA x0), (1, vI x1)] [] (f_X13_classSums_b41 x0 x1 k41 x2 x3) := by
  refine sn_iload_n (y := m_X13_classSums) (pc := 41) dX13_classSums_41 rfl ?_
  refine sn_iload_n (y := m_X13_classSums) (pc := 42) dX13_classSums_42 rfl ?_
  refine sn_icmp_ge (y := m_X13_classSums) (pc := 43) (tgt := 62) dX13_classSums_43 (by decide) (fun _ => ?_) (fun _ => ?_)
  · refine sn_aload_n (y := m_X13_classSums) (pc := 62) dX13_classSums_62 rfl ?_
    refine sn_iload_n (y := m_X13_classSums) (pc := 63) dX13_classSums_63 rfl ?_
    refine sn_iload_n (y := m_X13_classSums) (pc := 64) dX13_classSums_64 rfl ?_
    refine sn_idiv (y := m_X13_classSums) (pc := 65) dX13_classSums_65 ?_
    refine sn_invV (y := m_X13_classSums) (pc := 66) ca_11 (av := [vI (x2 / x1)]) (o := x0) (st := []) dX13_classSums_66 lk_X13_56 im_X13_good se_X13_good rfl rfl rfl rfl ⟨by decide, by decide⟩ (c_X13_good cx.1 x0 (x2 / x1)) (fun r5 => ?_)
    exact sn_ireturn rfl dX13_classSums_69
  refine sn_iload_n (y := m_X13_classSums) (pc := 46) dX13_classSums_46 rfl ?_
  refine sn_iload_n (y := m_X13_classSums) (pc := 47) dX13_classSums_47 rfl ?_
  refine sn_iload_n (y := m_X13_classSums) (pc := 48) dX13_classSums_48 rfl ?_
  refine sn_iload_n (y := m_X13_classSums) (pc := 49) dX13_classSums_49 rfl ?_
  refine sn_invS (y := m_X13_classSums) (pc := 50) (av := [vI x3, vI x1]) (st := [vI x3, vI x2]) dX13_classSums_50 lk_X13_429 sw_X13_signOf rfl rfl rfl ⟨by decide, by decide⟩ (c_X13_signOf cx.1 x3 x1) (fun r6 => ?_)
  refine sn_imul (y := m_X13_classSums) (pc := 53) dX13_classSums_53 ?_
  refine sn_isub (y := m_X13_classSums) (pc := 54) dX13_classSums_54 ?_
  refine sn_istore_nM (y := m_X13_classSums) (pc := 55) dX13_classSums_55 rfl (fun n7 => ?_)
  refine sn_iinc (y := m_X13_classSums) (pc := 56) (v := x3 + 1) dX13_classSums_56 rfl (by rfl) rfl ?_
  refine sn_goto (y := m_X13_classSums) (pc := 59) (tgt := 41) dX13_classSums_59 (by decide) ?_
  exact sn_sub rfl (hk41 n7 (x3 + 1))
set_option maxRecDepth 100000 in
theorem s_X13_classSums_l41 {cx : CX} (x0 : (Option Nat)) (x1 : Int32) (x2 : Int32) (x3 : Int32) : Sn cx m_X13_classSums eI 41 [(2, vI x2), (3, vI x3), (0, vA x0), (1, vI x1)] [] (f_X13_classSums_l41 x0 x1 x2 x3) :=
  sn_lq2 (L := fun x2 x3 => [(2, vI x2), (3, vI x3), (0, vA x0), (1, vI x1)]) (fun k hk x2 x3 => s_X13_classSums_b41 x0 x1 hk x2 x3) fuel x2 x3
def f_X13_classSums (p0 : (Option Nat)) (p1 : Int32) : Mo Int32 :=
  mBd (mPutI 11 0 p0 (0 : Int32)) (fun _ => mBd (f_X13_in p1 (7 : Int32) (199 : Int32)) (fun r1 => (if r1 = 0 then mBd (mCk 11 p0 (f_X13_refused p0 (2 : Int32))) (fun r2 => mRt r2) else mBd (f_X13_isPrime p1) (fun r3 => (if r3 = 0 then mBd (mCk 11 p0 (f_X13_refused p0 (2 : Int32))) (fun r4 => mRt r4) else (if (irem p1 (4 : Int32)) = (3 : Int32) then f_X13_classSums_l41 p0 p1 (0 : Int32) (1 : Int32) else mBd (mCk 11 p0 (f_X13_refused p0 (2 : Int32))) (fun r8 => mRt r8)))))))
set_option maxRecDepth 100000 in
theorem s_X13_classSums {cx : CX} (p0 : (Option Nat)) (p1 : Int32) : Sn cx m_X13_classSums eI 0 [(0, vA p0), (1, vI p1)] [] (f_X13_classSums p0 p1) := by
  refine sn_aload_n (y := m_X13_classSums) (pc := 0) dX13_classSums_0 rfl ?_
  refine sn_iconst (y := m_X13_classSums) (pc := 1) dX13_classSums_1 kc_iconst_0 ?_
  refine sn_putI (y := m_X13_classSums) (pc := 2) ca_11 rfl fk_X13_46 (Or.inl rfl) rfl dX13_classSums_2 ?_
  refine sn_iload_n (y := m_X13_classSums) (pc := 5) dX13_classSums_5 rfl ?_
  refine sn_bipush (y := m_X13_classSums) (pc := 6) dX13_classSums_6 kc_bipush_7 ?_
  refine sn_sipush (y := m_X13_classSums) (pc := 8) dX13_classSums_8 kc_sipush_199 ?_
  refine sn_invS (y := m_X13_classSums) (pc := 11) (av := [vI p1, vI (7 : Int32), vI (199 : Int32)]) (st := []) dX13_classSums_11 lk_X13_168 sw_X13_in rfl rfl rfl ⟨by decide, by decide⟩ (c_X13_in cx.1 p1 (7 : Int32) (199 : Int32)) (fun r1 => ?_)
  refine sn_if_eq (y := m_X13_classSums) (pc := 14) (tgt := 31) dX13_classSums_14 (by decide) (fun _ => ?_) (fun _ => ?_)
  · refine sn_aload_n (y := m_X13_classSums) (pc := 31) dX13_classSums_31 rfl ?_
    refine sn_iconst (y := m_X13_classSums) (pc := 32) dX13_classSums_32 kc_iconst_2 ?_
    refine sn_invV (y := m_X13_classSums) (pc := 33) ca_11 (av := [vI (2 : Int32)]) (o := p0) (st := []) dX13_classSums_33 lk_X13_52 im_X13_refused se_X13_refused rfl rfl rfl rfl ⟨by decide, by decide⟩ (c_X13_refused cx.1 p0 (2 : Int32)) (fun r2 => ?_)
    exact sn_ireturn rfl dX13_classSums_36
  refine sn_iload_n (y := m_X13_classSums) (pc := 17) dX13_classSums_17 rfl ?_
  refine sn_invS (y := m_X13_classSums) (pc := 18) (av := [vI p1]) (st := []) dX13_classSums_18 lk_X13_256 sw_X13_isPrime rfl rfl rfl ⟨by decide, by decide⟩ (c_X13_isPrime cx.1 p1) (fun r3 => ?_)
  refine sn_if_eq (y := m_X13_classSums) (pc := 21) (tgt := 31) dX13_classSums_21 (by decide) (fun _ => ?_) (fun _ => ?_)
  · refine sn_aload_n (y := m_X13_classSums) (pc := 31) dX13_classSums_31 rfl ?_
    refine sn_iconst (y := m_X13_classSums) (pc := 32) dX13_classSums_32 kc_iconst_2 ?_
    refine sn_invV (y := m_X13_classSums) (pc := 33) ca_11 (av := [vI (2 : Int32)]) (o := p0) (st := []) dX13_classSums_33 lk_X13_52 im_X13_refused se_X13_refused rfl rfl rfl rfl ⟨by decide, by decide⟩ (c_X13_refused cx.1 p0 (2 : Int32)) (fun r4 => ?_)
    exact sn_ireturn rfl dX13_classSums_36
  refine sn_iload_n (y := m_X13_classSums) (pc := 24) dX13_classSums_24 rfl ?_
  refine sn_iconst (y := m_X13_classSums) (pc := 25) dX13_classSums_25 kc_iconst_4 ?_
  refine sn_iremC (y := m_X13_classSums) (pc := 26) (by decide) dX13_classSums_26 ?_
  refine sn_iconst (y := m_X13_classSums) (pc := 27) dX13_classSums_27 kc_iconst_3 ?_
  refine sn_icmp_eq (y := m_X13_classSums) (pc := 28) (tgt := 37) dX13_classSums_28 (by decide) (fun _ => ?_) (fun _ => ?_)
  · refine sn_iconst (y := m_X13_classSums) (pc := 37) dX13_classSums_37 kc_iconst_0 ?_
    refine sn_istore_n (y := m_X13_classSums) (pc := 38) dX13_classSums_38 rfl ?_
    refine sn_iconst (y := m_X13_classSums) (pc := 39) dX13_classSums_39 kc_iconst_1 ?_
    refine sn_istore_n (y := m_X13_classSums) (pc := 40) dX13_classSums_40 rfl ?_
    exact sn_sub rfl (s_X13_classSums_l41 p0 p1 (0 : Int32) (1 : Int32))
  refine sn_aload_n (y := m_X13_classSums) (pc := 31) dX13_classSums_31 rfl ?_
  refine sn_iconst (y := m_X13_classSums) (pc := 32) dX13_classSums_32 kc_iconst_2 ?_
  refine sn_invV (y := m_X13_classSums) (pc := 33) ca_11 (av := [vI (2 : Int32)]) (o := p0) (st := []) dX13_classSums_33 lk_X13_52 im_X13_refused se_X13_refused rfl rfl rfl rfl ⟨by decide, by decide⟩ (c_X13_refused cx.1 p0 (2 : Int32)) (fun r8 => ?_)
  exact sn_ireturn rfl dX13_classSums_36
set_option maxRecDepth 100000 in
theorem c_X13_classSums (g : Gl) (p0 : (Option Nat)) (p1 : Int32) : Cn g m_X13_classSums eI [vA p0, vI p1] (mCk 11 p0 (f_X13_classSums p0 p1)) := cn_of_sn (by decide +kernel) rfl (fun r => ⟨r, rfl⟩) rfl (fun _ _ => sn_ck (s_X13_classSums p0 p1))
/-! X13_classForms -/
def f_X13_classForms_j124 (k39 : Int32 → Int32 → Mo Int32) (k53 : Int32 → Int32 → Mo Int32) (x0 : (Option Nat)) (x1 : Int32) (x3 : Int32) (x4 : Int32) (x5 : Int32) (s0 : Int32) (s1 : Int32) (s2 : Int32) : Mo Int32 :=
  mBd (f_X13_divisor s1 s0) (fun r6 => mBd (f_X13_divisor r6 x5) (fun r7 => (if ¬ r7 = (1 : Int32) then mNm (s2 + (0 : Int32)) (fun n8 => k53 n8 (x4 + 1)) else mNm (s2 + (1 : Int32)) (fun n9 => k53 n9 (x4 + 1)))))
set_option maxRecDepth 100000 in
theorem s_X13_classForms_j124 {cx : CX} {k39 : Int32 → Int32 → Mo Int32} {k53 : Int32 → Int32 → Mo Int32} (x0 : (Option Nat)) (x1 : Int32) (x3 : Int32) (x4 : Int32) (x5 : Int32) (s0 : Int32) (s1 : Int32) (s2 : Int32) (hk39 : ∀ (z2 : Int32) (z3 : Int32), Sn cx m_X13_classForms eI 39 [(2, vI z2), (3, vI z3), (0, vA x0), (1, vI x1)] [] (k39 z2 z3)) (hk53 : ∀ (z2 : Int32) (z4 : Int32), Sn cx m_X13_classForms eI 53 [(2, vI z2), (4, vI z4), (0, vA x0), (1, vI x1), (3, vI x3)] [] (k53 z2 z4)) : Sn cx m_X13_classForms eI 124 [(0, vA x0), (1, vI x1), (3, vI x3), (4, vI x4), (5, vI x5)] [vI s0, vI s1, vI s2] (f_X13_classForms_j124 k39 k53 x0 x1 x3 x4 x5 s0 s1 s2) := by
  refine sn_invS (y := m_X13_classForms) (pc := 124) (av := [vI s1, vI s0]) (st := [vI s2]) dX13_classForms_124 lk_X13_435 sw_X13_divisor rfl rfl rfl ⟨by decide, by decide⟩ (c_X13_divisor cx.1 s1 s0) (fun r6 => ?_)
  refine sn_iload (y := m_X13_classForms) (pc := 127) dX13_classForms_127 rfl ?_
  refine sn_invS (y := m_X13_classForms) (pc := 129) (av := [vI r6, vI x5]) (st := [vI s2]) dX13_classForms_129 lk_X13_435 sw_X13_divisor rfl rfl rfl ⟨by decide, by decide⟩ (c_X13_divisor cx.1 r6 x5) (fun r7 => ?_)
  refine sn_iconst (y := m_X13_classForms) (pc := 132) dX13_classForms_132 kc_iconst_1 ?_
  refine sn_icmp_ne (y := m_X13_classForms) (pc := 133) (tgt := 140) dX13_classForms_133 (by decide) (fun _ => ?_) (fun _ => ?_)
  · refine sn_iconst (y := m_X13_classForms) (pc := 140) dX13_classForms_140 kc_iconst_0 ?_
    refine sn_iadd (y := m_X13_classForms) (pc := 141) dX13_classForms_141 ?_
    refine sn_istore_nM (y := m_X13_classForms) (pc := 142) dX13_classForms_142 rfl (fun n8 => ?_)
    refine sn_iinc (y := m_X13_classForms) (pc := 143) (v := x4 + 1) dX13_classForms_143 rfl (by rfl) rfl ?_
    refine sn_goto (y := m_X13_classForms) (pc := 146) (tgt := 53) dX13_classForms_146 (by decide) ?_
    exact sn_sub rfl (hk53 n8 (x4 + 1))
  refine sn_iconst (y := m_X13_classForms) (pc := 136) dX13_classForms_136 kc_iconst_1 ?_
  refine sn_goto (y := m_X13_classForms) (pc := 137) (tgt := 141) dX13_classForms_137 (by decide) ?_
  refine sn_iadd (y := m_X13_classForms) (pc := 141) dX13_classForms_141 ?_
  refine sn_istore_nM (y := m_X13_classForms) (pc := 142) dX13_classForms_142 rfl (fun n9 => ?_)
  refine sn_iinc (y := m_X13_classForms) (pc := 143) (v := x4 + 1) dX13_classForms_143 rfl (by rfl) rfl ?_
  refine sn_goto (y := m_X13_classForms) (pc := 146) (tgt := 53) dX13_classForms_146 (by decide) ?_
  exact sn_sub rfl (hk53 n9 (x4 + 1))
def f_X13_classForms_j109 (k39 : Int32 → Int32 → Mo Int32) (k53 : Int32 → Int32 → Mo Int32) (x0 : (Option Nat)) (x1 : Int32) (x2 : Int32) (x3 : Int32) (x4 : Int32) (x5 : Int32) : Mo Int32 :=
  (if x4 ≥ 0 then f_X13_classForms_j124 k39 k53 x0 x1 x3 x4 x5 x4 x3 x2 else f_X13_classForms_j124 k39 k53 x0 x1 x3 x4 x5 (-x4) x3 x2)
set_option maxRecDepth 100000 in
theorem s_X13_classForms_j109 {cx : CX} {k39 : Int32 → Int32 → Mo Int32} {k53 : Int32 → Int32 → Mo Int32} (x0 : (Option Nat)) (x1 : Int32) (x2 : Int32) (x3 : Int32) (x4 : Int32) (x5 : Int32) (hk39 : ∀ (z2 : Int32) (z3 : Int32), Sn cx m_X13_classForms eI 39 [(2, vI z2), (3, vI z3), (0, vA x0), (1, vI x1)] [] (k39 z2 z3)) (hk53 : ∀ (z2 : Int32) (z4 : Int32), Sn cx m_X13_classForms eI 53 [(2, vI z2), (4, vI z4), (0, vA x0), (1, vI x1), (3, vI x3)] [] (k53 z2 z4)) : Sn cx m_X13_classForms eI 109 [(0, vA x0), (1, vI x1), (2, vI x2), (3, vI x3), (4, vI x4), (5, vI x5)] [] (f_X13_classForms_j109 k39 k53 x0 x1 x2 x3 x4 x5) := by
  refine sn_iload_n (y := m_X13_classForms) (pc := 109) dX13_classForms_109 rfl ?_
  refine sn_iload_n (y := m_X13_classForms) (pc := 110) dX13_classForms_110 rfl ?_
  refine sn_iload (y := m_X13_classForms) (pc := 111) dX13_classForms_111 rfl ?_
  refine sn_if_ge (y := m_X13_classForms) (pc := 113) (tgt := 122) dX13_classForms_113 (by decide) (fun _ => ?_) (fun _ => ?_)
  · refine sn_iload (y := m_X13_classForms) (pc := 122) dX13_classForms_122 rfl ?_
    exact sn_sub rfl (s_X13_classForms_j124 x0 x1 x3 x4 x5 x4 x3 x2 hk39 hk53)
  refine sn_iload (y := m_X13_classForms) (pc := 116) dX13_classForms_116 rfl ?_
  refine sn_ineg (y := m_X13_classForms) (pc := 118) dX13_classForms_118 ?_
  refine sn_goto (y := m_X13_classForms) (pc := 119) (tgt := 124) dX13_classForms_119 (by decide) ?_
  exact sn_sub rfl (s_X13_classForms_j124 x0 x1 x3 x4 x5 (-x4) x3 x2 hk39 hk53)
def f_X13_classForms_b53 (k39 : Int32 → Int32 → Mo Int32) (x0 : (Option Nat)) (x1 : Int32) (x3 : Int32) (k53 : Int32 → Int32 → Mo Int32) (x2 : Int32) (x4 : Int32) : Mo Int32 :=
  (if x4 > x3 then k39 x2 (x3 + 1) else mRq (¬ ((4 : Int32) * x3) = 0) ((if (irem ((x4 * x4) + x1) ((4 : Int32) * x3)) = 0 then mRq (¬ ((4 : Int32) * x3) = 0) (mNm (((x4 * x4) + x1) / ((4 : Int32) * x3)) (fun n5 => (if n5 < x3 then k53 x2 (x4 + 1) else (if ¬ n5 = x3 then f_X13_classForms_j109 k39 k53 x0 x1 x2 x3 x4 n5 else (if x4 ≥ 0 then f_X13_classForms_j109 k39 k53 x0 x1 x2 x3 x4 n5 else k53 x2 (x4 + 1)))))) else k53 x2 (x4 + 1))))
def f_X13_classForms_l53 (k39 : Int32 → Int32 → Mo Int32) (x0 : (Option Nat)) (x1 : Int32) (x3 : Int32) : Int32 → Int32 → Mo Int32 := lq2 (f_X13_classForms_b53 k39 x0 x1 x3) fuel
set_option maxRecDepth 100000 in
theorem s_X13_classForms_b53 {cx : CX} {k39 : Int32 → Int32 → Mo Int32} (x0 : (Option Nat)) (x1 : Int32) (x3 : Int32) (hk39 : ∀ (z2 : Int32) (z3 : Int32), Sn cx m_X13_classForms eI 39 [(2, vI z2), (3, vI z3), (0, vA x0), (1, vI x1)] [] (k39 z2 z3)) {k53 : Int32 → Int32 → Mo Int32} (hk53 : ∀ (z2 : Int32) (z4 : Int32), Sn cx m_X13_classForms eI 53 [(2, vI z2), (4, vI z4), (0, vA x0), (1, vI x1), (3, vI x3)] [] (k53 z2 z4)) (x2 : Int32) (x4 : Int32) : Sn cx m_X13_classForms eI 53 [(2, vI x2), (4, vI x4), (0, vA x0), (1, vI x1), (3, vI x3)] [] (f_X13_classForms_b53 k39 x0 x1 x3 k53 x2 x4) := by
  refine sn_iload (y := m_X13_classForms) (pc := 53) dX13_classForms_53 rfl ?_
  refine sn_iload_n (y := m_X13_classForms) (pc := 55) dX13_classForms_55 rfl ?_
  refine sn_icmp_gt (y := m_X13_classForms) (pc := 56) (tgt := 149) dX13_classForms_56 (by decide) (fun _ => ?_) (fun _ => ?_)
  · refine sn_iinc (y := m_X13_classForms) (pc := 149) (v := x3 + 1) dX13_classForms_149 rfl (by rfl) rfl ?_
    refine sn_goto (y := m_X13_classForms) (pc := 152) (tgt := 39) dX13_classForms_152 (by decide) ?_
    exact sn_sub rfl (hk39 x2 (x3 + 1))
  refine sn_iload (y := m_X13_classForms) (pc := 59) dX13_classForms_59 rfl ?_
  refine sn_iload (y := m_X13_classForms) (pc := 61) dX13_classForms_61 rfl ?_
  refine sn_imul (y := m_X13_classForms) (pc := 63) dX13_classForms_63 ?_
  refine sn_iload_n (y := m_X13_classForms) (pc := 64) dX13_classForms_64 rfl ?_
  refine sn_iadd (y := m_X13_classForms) (pc := 65) dX13_classForms_65 ?_
  refine sn_iconst (y := m_X13_classForms) (pc := 66) dX13_classForms_66 kc_iconst_4 ?_
  refine sn_iload_n (y := m_X13_classForms) (pc := 67) dX13_classForms_67 rfl ?_
  refine sn_imul (y := m_X13_classForms) (pc := 68) dX13_classForms_68 ?_
  refine sn_irem (y := m_X13_classForms) (pc := 69) dX13_classForms_69 ?_
  refine sn_if_eq (y := m_X13_classForms) (pc := 70) (tgt := 76) dX13_classForms_70 (by decide) (fun _ => ?_) (fun _ => ?_)
  · refine sn_iload (y := m_X13_classForms) (pc := 76) dX13_classForms_76 rfl ?_
    refine sn_iload (y := m_X13_classForms) (pc := 78) dX13_classForms_78 rfl ?_
    refine sn_imul (y := m_X13_classForms) (pc := 80) dX13_classForms_80 ?_
    refine sn_iload_n (y := m_X13_classForms) (pc := 81) dX13_classForms_81 rfl ?_
    refine sn_iadd (y := m_X13_classForms) (pc := 82) dX13_classForms_82 ?_
    refine sn_iconst (y := m_X13_classForms) (pc := 83) dX13_classForms_83 kc_iconst_4 ?_
    refine sn_iload_n (y := m_X13_classForms) (pc := 84) dX13_classForms_84 rfl ?_
    refine sn_imul (y := m_X13_classForms) (pc := 85) dX13_classForms_85 ?_
    refine sn_idiv (y := m_X13_classForms) (pc := 86) dX13_classForms_86 ?_
    refine sn_istoreM (y := m_X13_classForms) (pc := 87) dX13_classForms_87 rfl (fun n5 => ?_)
    refine sn_iload (y := m_X13_classForms) (pc := 89) dX13_classForms_89 rfl ?_
    refine sn_iload_n (y := m_X13_classForms) (pc := 91) dX13_classForms_91 rfl ?_
    refine sn_icmp_lt (y := m_X13_classForms) (pc := 92) (tgt := 143) dX13_classForms_92 (by decide) (fun _ => ?_) (fun _ => ?_)
    · refine sn_iinc (y := m_X13_classForms) (pc := 143) (v := x4 + 1) dX13_classForms_143 rfl (by rfl) rfl ?_
      refine sn_goto (y := m_X13_classForms) (pc := 146) (tgt := 53) dX13_classForms_146 (by decide) ?_
      exact sn_sub rfl (hk53 x2 (x4 + 1))
    refine sn_iload (y := m_X13_classForms) (pc := 95) dX13_classForms_95 rfl ?_
    refine sn_iload_n (y := m_X13_classForms) (pc := 97) dX13_classForms_97 rfl ?_
    refine sn_icmp_ne (y := m_X13_classForms) (pc := 98) (tgt := 109) dX13_classForms_98 (by decide) (fun _ => ?_) (fun _ => ?_)
    · exact sn_sub rfl (s_X13_classForms_j109 x0 x1 x2 x3 x4 n5 hk39 hk53)
    refine sn_iload (y := m_X13_classForms) (pc := 101) dX13_classForms_101 rfl ?_
    refine sn_if_ge (y := m_X13_classForms) (pc := 103) (tgt := 109) dX13_classForms_103 (by decide) (fun _ => ?_) (fun _ => ?_)
    · exact sn_sub rfl (s_X13_classForms_j109 x0 x1 x2 x3 x4 n5 hk39 hk53)
    refine sn_goto (y := m_X13_classForms) (pc := 106) (tgt := 143) dX13_classForms_106 (by decide) ?_
    refine sn_iinc (y := m_X13_classForms) (pc := 143) (v := x4 + 1) dX13_classForms_143 rfl (by rfl) rfl ?_
    refine sn_goto (y := m_X13_classForms) (pc := 146) (tgt := 53) dX13_classForms_146 (by decide) ?_
    exact sn_sub rfl (hk53 x2 (x4 + 1))
  refine sn_goto (y := m_X13_classForms) (pc := 73) (tgt := 143) dX13_classForms_73 (by decide) ?_
  refine sn_iinc (y := m_X13_classForms) (pc := 143) (v := x4 + 1) dX13_classForms_143 rfl (by rfl) rfl ?_
  refine sn_goto (y := m_X13_classForms) (pc := 146) (tgt := 53) dX13_classForms_146 (by decide) ?_
  exact sn_sub rfl (hk53 x2 (x4 + 1))
set_option maxRecDepth 100000 in
theorem s_X13_classForms_l53 {cx : CX} {k39 : Int32 → Int32 → Mo Int32} (x0 : (Option Nat)) (x1 : Int32) (x3 : Int32) (hk39 : ∀ (z2 : Int32) (z3 : Int32), Sn cx m_X13_classForms eI 39 [(2, vI z2), (3, vI z3), (0, vA x0), (1, vI x1)] [] (k39 z2 z3)) (x2 : Int32) (x4 : Int32) : Sn cx m_X13_classForms eI 53 [(2, vI x2), (4, vI x4), (0, vA x0), (1, vI x1), (3, vI x3)] [] (f_X13_classForms_l53 k39 x0 x1 x3 x2 x4) :=
  sn_lq2 (L := fun x2 x4 => [(2, vI x2), (4, vI x4), (0, vA x0), (1, vI x1), (3, vI x3)]) (fun k hk x2 x4 => s_X13_classForms_b53 x0 x1 x3 hk39 hk x2 x4) fuel x2 x4
def f_X13_classForms_b39 (x0 : (Option Nat)) (x1 : Int32) (k39 : Int32 → Int32 → Mo Int32) (x2 : Int32) (x3 : Int32) : Mo Int32 :=
  (if (((3 : Int32) * x3) * x3) > x1 then mBd (mCk 11 x0 (f_X13_good x0 x2)) (fun r3 => mRt r3) else mNm ((1 : Int32) - x3) (fun n4 => f_X13_classForms_l53 k39 x0 x1 x3 x2 n4))
def f_X13_classForms_l39 (x0 : (Option Nat)) (x1 : Int32) : Int32 → Int32 → Mo Int32 := lq2 (f_X13_classForms_b39 x0 x1) fuel
set_option maxRecDepth 100000 in
theorem s_X13_classForms_b39 {cx : CX} (x0 : (Option Nat)) (x1 : Int32) {k39 : Int32 → Int32 → Mo Int32} (hk39 : ∀ (z2 : Int32) (z3 : Int32), Sn cx m_X13_classForms eI 39 [(2, vI z2), (3, vI z3), (0, vA x0), (1, vI x1)] [] (k39 z2 z3)) (x2 : Int32) (x3 : Int32) : Sn cx m_X13_classForms eI 39 [(2, vI x2), (3, vI x3), (0, vA x0), (1, vI x1)] [] (f_X13_classForms_b39 x0 x1 k39 x2 x3) := by
  refine sn_iconst (y := m_X13_classForms) (pc := 39) dX13_classForms_39 kc_iconst_3 ?_
  refine sn_iload_n (y := m_X13_classForms) (pc := 40) dX13_classForms_40 rfl ?_
  refine sn_imul (y := m_X13_classForms) (pc := 41) dX13_classForms_41 ?_
  refine sn_iload_n (y := m_X13_classForms) (pc := 42) dX13_classForms_42 rfl ?_
  refine sn_imul (y := m_X13_classForms) (pc := 43) dX13_classForms_43 ?_
  refine sn_iload_n (y := m_X13_classForms) (pc := 44) dX13_classForms_44 rfl ?_
  refine sn_icmp_gt (y := m_X13_classForms) (pc := 45) (tgt := 155) dX13_classForms_45 (by decide) (fun _ => ?_) (fun _ => ?_)
  · refine sn_aload_n (y := m_X13_classForms) (pc := 155) dX13_classForms_155 rfl ?_
    refine sn_iload_n (y := m_X13_classForms) (pc := 156) dX13_classForms_156 rfl ?_
    refine sn_invV (y := m_X13_classForms) (pc := 157) ca_11 (av := [vI x2]) (o := x0) (st := []) dX13_classForms_157 lk_X13_56 im_X13_good se_X13_good rfl rfl rfl rfl ⟨by decide, by decide⟩ (c_X13_good cx.1 x0 x2) (fun r3 => ?_)
    exact sn_ireturn rfl dX13_classForms_160
  refine sn_iconst (y := m_X13_classForms) (pc := 48) dX13_classForms_48 kc_iconst_1 ?_
  refine sn_iload_n (y := m_X13_classForms) (pc := 49) dX13_classForms_49 rfl ?_
  refine sn_isub (y := m_X13_classForms) (pc := 50) dX13_classForms_50 ?_
  refine sn_istoreM (y := m_X13_classForms) (pc := 51) dX13_classForms_51 rfl (fun n4 => ?_)
  exact sn_sub rfl (s_X13_classForms_l53 x0 x1 x3 hk39 x2 n4)
set_option maxRecDepth 100000 in
theorem s_X13_classForms_l39 {cx : CX} (x0 : (Option Nat)) (x1 : Int32) (x2 : Int32) (x3 : Int32) : Sn cx m_X13_classForms eI 39 [(2, vI x2), (3, vI x3), (0, vA x0), (1, vI x1)] [] (f_X13_classForms_l39 x0 x1 x2 x3) :=
  sn_lq2 (L := fun x2 x3 => [(2, vI x2), (3, vI x3), (0, vA x0), (1, vI x1)]) (fun k hk x2 x3 => s_X13_classForms_b39 x0 x1 hk x2 x3) fuel x2 x3
def f_X13_classForms_j35 (x0 : (Option Nat)) (x1 : Int32) : Mo Int32 :=
  f_X13_classForms_l39 x0 x1 (0 : Int32) (1 : Int32)
set_option maxRecDepth 100000 in
theorem s_X13_classForms_j35 {cx : CX} (x0 : (Option Nat)) (x1 : Int32) : Sn cx m_X13_classForms eI 35 [(0, vA x0), (1, vI x1)] [] (f_X13_classForms_j35 x0 x1) := by
  refine sn_iconst (y := m_X13_classForms) (pc := 35) dX13_classForms_35 kc_iconst_0 ?_
  refine sn_istore_n (y := m_X13_classForms) (pc := 36) dX13_classForms_36 rfl ?_
  refine sn_iconst (y := m_X13_classForms) (pc := 37) dX13_classForms_37 kc_iconst_1 ?_
  refine sn_istore_n (y := m_X13_classForms) (pc := 38) dX13_classForms_38 rfl ?_
  exact sn_sub rfl (s_X13_classForms_l39 x0 x1 (0 : Int32) (1 : Int32))
def f_X13_classForms (p0 : (Option Nat)) (p1 : Int32) : Mo Int32 :=
  mBd (mPutI 11 0 p0 (0 : Int32)) (fun _ => mBd (f_X13_in p1 (3 : Int32) (999 : Int32)) (fun r1 => (if r1 = 0 then mBd (mCk 11 p0 (f_X13_refused p0 (2 : Int32))) (fun r2 => mRt r2) else (if (irem p1 (4 : Int32)) = 0 then f_X13_classForms_j35 p0 p1 else (if (irem p1 (4 : Int32)) = (3 : Int32) then f_X13_classForms_j35 p0 p1 else mBd (mCk 11 p0 (f_X13_refused p0 (2 : Int32))) (fun r10 => mRt r10))))))
set_option maxRecDepth 100000 in
theorem s_X13_classForms {cx : CX} (p0 : (Option Nat)) (p1 : Int32) : Sn cx m_X13_classForms eI 0 [(0, vA p0), (1, vI p1)] [] (f_X13_classForms p0 p1) := by
  refine sn_aload_n (y := m_X13_classForms) (pc := 0) dX13_classForms_0 rfl ?_
  refine sn_iconst (y := m_X13_classForms) (pc := 1) dX13_classForms_1 kc_iconst_0 ?_
  refine sn_putI (y := m_X13_classForms) (pc := 2) ca_11 rfl fk_X13_46 (Or.inl rfl) rfl dX13_classForms_2 ?_
  refine sn_iload_n (y := m_X13_classForms) (pc := 5) dX13_classForms_5 rfl ?_
  refine sn_iconst (y := m_X13_classForms) (pc := 6) dX13_classForms_6 kc_iconst_3 ?_
  refine sn_sipush (y := m_X13_classForms) (pc := 7) dX13_classForms_7 kc_sipush_999 ?_
  refine sn_invS (y := m_X13_classForms) (pc := 10) (av := [vI p1, vI (3 : Int32), vI (999 : Int32)]) (st := []) dX13_classForms_10 lk_X13_168 sw_X13_in rfl rfl rfl ⟨by decide, by decide⟩ (c_X13_in cx.1 p1 (3 : Int32) (999 : Int32)) (fun r1 => ?_)
  refine sn_if_eq (y := m_X13_classForms) (pc := 13) (tgt := 29) dX13_classForms_13 (by decide) (fun _ => ?_) (fun _ => ?_)
  · refine sn_aload_n (y := m_X13_classForms) (pc := 29) dX13_classForms_29 rfl ?_
    refine sn_iconst (y := m_X13_classForms) (pc := 30) dX13_classForms_30 kc_iconst_2 ?_
    refine sn_invV (y := m_X13_classForms) (pc := 31) ca_11 (av := [vI (2 : Int32)]) (o := p0) (st := []) dX13_classForms_31 lk_X13_52 im_X13_refused se_X13_refused rfl rfl rfl rfl ⟨by decide, by decide⟩ (c_X13_refused cx.1 p0 (2 : Int32)) (fun r2 => ?_)
    exact sn_ireturn rfl dX13_classForms_34
  refine sn_iload_n (y := m_X13_classForms) (pc := 16) dX13_classForms_16 rfl ?_
  refine sn_iconst (y := m_X13_classForms) (pc := 17) dX13_classForms_17 kc_iconst_4 ?_
  refine sn_iremC (y := m_X13_classForms) (pc := 18) (by decide) dX13_classForms_18 ?_
  refine sn_if_eq (y := m_X13_classForms) (pc := 19) (tgt := 35) dX13_classForms_19 (by decide) (fun _ => ?_) (fun _ => ?_)
  · exact sn_sub rfl (s_X13_classForms_j35 p0 p1)
  refine sn_iload_n (y := m_X13_classForms) (pc := 22) dX13_classForms_22 rfl ?_
  refine sn_iconst (y := m_X13_classForms) (pc := 23) dX13_classForms_23 kc_iconst_4 ?_
  refine sn_iremC (y := m_X13_classForms) (pc := 24) (by decide) dX13_classForms_24 ?_
  refine sn_iconst (y := m_X13_classForms) (pc := 25) dX13_classForms_25 kc_iconst_3 ?_
  refine sn_icmp_eq (y := m_X13_classForms) (pc := 26) (tgt := 35) dX13_classForms_26 (by decide) (fun _ => ?_) (fun _ => ?_)
  · exact sn_sub rfl (s_X13_classForms_j35 p0 p1)
  refine sn_aload_n (y := m_X13_classForms) (pc := 29) dX13_classForms_29 rfl ?_
  refine sn_iconst (y := m_X13_classForms) (pc := 30) dX13_classForms_30 kc_iconst_2 ?_
  refine sn_invV (y := m_X13_classForms) (pc := 31) ca_11 (av := [vI (2 : Int32)]) (o := p0) (st := []) dX13_classForms_31 lk_X13_52 im_X13_refused se_X13_refused rfl rfl rfl rfl ⟨by decide, by decide⟩ (c_X13_refused cx.1 p0 (2 : Int32)) (fun r10 => ?_)
  exact sn_ireturn rfl dX13_classForms_34
set_option maxRecDepth 100000 in
theorem c_X13_classForms (g : Gl) (p0 : (Option Nat)) (p1 : Int32) : Cn g m_X13_classForms eI [vA p0, vI p1] (mCk 11 p0 (f_X13_classForms p0 p1)) := cn_of_sn (by decide +kernel) rfl (fun r => ⟨r, rfl⟩) rfl (fun _ _ => sn_ck (s_X13_classForms p0 p1))
/-! X13_meets -/
def f_X13_meets_j94 (k38 : Int32 → Int32 → Mo Int32) (x0 : (Option Nat)) (x2 : Int32) (x3 : Int32) (x4 : (Option Nat)) (x6 : Int32) (s0 : Int32) : Mo Int32 :=
  mNm (s0 + (0 : Int32)) (fun n10 => k38 n10 (x6 + 1))
set_option maxRecDepth 100000 in
theorem s_X13_meets_j94 {cx : CX} {k38 : Int32 → Int32 → Mo Int32} (x0 : (Option Nat)) (x2 : Int32) (x3 : Int32) (x4 : (Option Nat)) (x6 : Int32) (s0 : Int32) (hk38 : ∀ (z5 : Int32) (z6 : Int32), Sn cx m_X13_meets eI 38 [(5, vI z5), (6, vI z6), (0, vA x0), (2, vI x2), (3, vI x3), (4, vA x4)] [] (k38 z5 z6)) : Sn cx m_X13_meets eI 94 [(0, vA x0), (2, vI x2), (3, vI x3), (4, vA x4), (6, vI x6)] [vI s0] (f_X13_meets_j94 k38 x0 x2 x3 x4 x6 s0) := by
  refine sn_iconst (y := m_X13_meets) (pc := 94) dX13_meets_94 kc_iconst_0 ?_
  refine sn_iadd (y := m_X13_meets) (pc := 95) dX13_meets_95 ?_
  refine sn_istoreM (y := m_X13_meets) (pc := 96) dX13_meets_96 rfl (fun n10 => ?_)
  refine sn_iinc (y := m_X13_meets) (pc := 98) (v := x6 + 1) dX13_meets_98 rfl (by rfl) rfl ?_
  refine sn_goto (y := m_X13_meets) (pc := 101) (tgt := 38) dX13_meets_101 (by decide) ?_
  exact sn_sub rfl (hk38 n10 (x6 + 1))
def f_X13_meets_b38 (x0 : (Option Nat)) (x2 : Int32) (x3 : Int32) (x4 : (Option Nat)) (k38 : Int32 → Int32 → Mo Int32) (x5 : Int32) (x6 : Int32) : Mo Int32 :=
  mBd (mGetI 10 0 x4) (fun r5 => (if x6 ≥ (r5 - (1 : Int32)) then mBd (mCk 11 x0 (f_X13_good x0 x5)) (fun r6 => mRt r6) else mBd (mGetA 10 4 x4) (fun r7 => mBd (mLdI 1 r7 x6) (fun r8 => mBd (mGetI 10 1 x4) (fun r9 => mRq (¬ r9 = 0) ((if ¬ (irem r8 r9) = x2 then f_X13_meets_j94 k38 x0 x2 x3 x4 x6 x5 else mBd (mGetA 10 4 x4) (fun r11 => mBd (mLdI 1 r11 (x6 + (1 : Int32))) (fun r12 => mBd (mGetI 10 1 x4) (fun r13 => mRq (¬ r13 = 0) ((if ¬ (irem r12 r13) = x3 then f_X13_meets_j94 k38 x0 x2 x3 x4 x6 x5 else mNm (x5 + (1 : Int32)) (fun n14 => k38 n14 (x6 + 1))))))))))))))
def f_X13_meets_l38 (x0 : (Option Nat)) (x2 : Int32) (x3 : Int32) (x4 : (Option Nat)) : Int32 → Int32 → Mo Int32 := lq2 (f_X13_meets_b38 x0 x2 x3 x4) fuel
set_option maxRecDepth 100000 in
theorem s_X13_meets_b38 {cx : CX} (x0 : (Option Nat)) (x2 : Int32) (x3 : Int32) (x4 : (Option Nat)) {k38 : Int32 → Int32 → Mo Int32} (hk38 : ∀ (z5 : Int32) (z6 : Int32), Sn cx m_X13_meets eI 38 [(5, vI z5), (6, vI z6), (0, vA x0), (2, vI x2), (3, vI x3), (4, vA x4)] [] (k38 z5 z6)) (x5 : Int32) (x6 : Int32) : Sn cx m_X13_meets eI 38 [(5, vI x5), (6, vI x6), (0, vA x0), (2, vI x2), (3, vI x3), (4, vA x4)] [] (f_X13_meets_b38 x0 x2 x3 x4 k38 x5 x6) := by
  refine sn_iload (y := m_X13_meets) (pc := 38) dX13_meets_38 rfl ?_
  refine sn_aload (y := m_X13_meets) (pc := 40) dX13_meets_40 rfl ?_
  refine sn_getI (y := m_X13_meets) (pc := 42) ca_10 rfl fk_X13_81 (fun _ _ _ => rfl) dX13_meets_42 (fun r5 => ?_)
  refine sn_iconst (y := m_X13_meets) (pc := 45) dX13_meets_45 kc_iconst_1 ?_
  refine sn_isub (y := m_X13_meets) (pc := 46) dX13_meets_46 ?_
  refine sn_icmp_ge (y := m_X13_meets) (pc := 47) (tgt := 104) dX13_meets_47 (by decide) (fun _ => ?_) (fun _ => ?_)
  · refine sn_aload_n (y := m_X13_meets) (pc := 104) dX13_meets_104 rfl ?_
    refine sn_iload (y := m_X13_meets) (pc := 105) dX13_meets_105 rfl ?_
    refine sn_invV (y := m_X13_meets) (pc := 107) ca_11 (av := [vI x5]) (o := x0) (st := []) dX13_meets_107 lk_X13_56 im_X13_good se_X13_good rfl rfl rfl rfl ⟨by decide, by decide⟩ (c_X13_good cx.1 x0 x5) (fun r6 => ?_)
    exact sn_ireturn rfl dX13_meets_110
  refine sn_iload (y := m_X13_meets) (pc := 50) dX13_meets_50 rfl ?_
  refine sn_aload (y := m_X13_meets) (pc := 52) dX13_meets_52 rfl ?_
  refine sn_getA (y := m_X13_meets) (pc := 54) ca_10 rfl fk_X13_84 (fun _ _ _ => rfl) dX13_meets_54 (fun r7 => ?_)
  refine sn_iload (y := m_X13_meets) (pc := 57) dX13_meets_57 rfl ?_
  refine sn_iaload (y := m_X13_meets) (pc := 59) dX13_meets_59 (fun r8 => ?_)
  refine sn_aload (y := m_X13_meets) (pc := 60) dX13_meets_60 rfl ?_
  refine sn_getI (y := m_X13_meets) (pc := 62) ca_10 rfl fk_X13_59 (fun _ _ _ => rfl) dX13_meets_62 (fun r9 => ?_)
  refine sn_irem (y := m_X13_meets) (pc := 65) dX13_meets_65 ?_
  refine sn_iload_n (y := m_X13_meets) (pc := 66) dX13_meets_66 rfl ?_
  refine sn_icmp_ne (y := m_X13_meets) (pc := 67) (tgt := 94) dX13_meets_67 (by decide) (fun _ => ?_) (fun _ => ?_)
  · exact sn_sub rfl (s_X13_meets_j94 x0 x2 x3 x4 x6 x5 hk38)
  refine sn_aload (y := m_X13_meets) (pc := 70) dX13_meets_70 rfl ?_
  refine sn_getA (y := m_X13_meets) (pc := 72) ca_10 rfl fk_X13_84 (fun _ _ _ => rfl) dX13_meets_72 (fun r11 => ?_)
  refine sn_iload (y := m_X13_meets) (pc := 75) dX13_meets_75 rfl ?_
  refine sn_iconst (y := m_X13_meets) (pc := 77) dX13_meets_77 kc_iconst_1 ?_
  refine sn_iadd (y := m_X13_meets) (pc := 78) dX13_meets_78 ?_
  refine sn_iaload (y := m_X13_meets) (pc := 79) dX13_meets_79 (fun r12 => ?_)
  refine sn_aload (y := m_X13_meets) (pc := 80) dX13_meets_80 rfl ?_
  refine sn_getI (y := m_X13_meets) (pc := 82) ca_10 rfl fk_X13_59 (fun _ _ _ => rfl) dX13_meets_82 (fun r13 => ?_)
  refine sn_irem (y := m_X13_meets) (pc := 85) dX13_meets_85 ?_
  refine sn_iload_n (y := m_X13_meets) (pc := 86) dX13_meets_86 rfl ?_
  refine sn_icmp_ne (y := m_X13_meets) (pc := 87) (tgt := 94) dX13_meets_87 (by decide) (fun _ => ?_) (fun _ => ?_)
  · exact sn_sub rfl (s_X13_meets_j94 x0 x2 x3 x4 x6 x5 hk38)
  refine sn_iconst (y := m_X13_meets) (pc := 90) dX13_meets_90 kc_iconst_1 ?_
  refine sn_goto (y := m_X13_meets) (pc := 91) (tgt := 95) dX13_meets_91 (by decide) ?_
  refine sn_iadd (y := m_X13_meets) (pc := 95) dX13_meets_95 ?_
  refine sn_istoreM (y := m_X13_meets) (pc := 96) dX13_meets_96 rfl (fun n14 => ?_)
  refine sn_iinc (y := m_X13_meets) (pc := 98) (v := x6 + 1) dX13_meets_98 rfl (by rfl) rfl ?_
  refine sn_goto (y := m_X13_meets) (pc := 101) (tgt := 38) dX13_meets_101 (by decide) ?_
  exact sn_sub rfl (hk38 n14 (x6 + 1))
set_option maxRecDepth 100000 in
theorem s_X13_meets_l38 {cx : CX} (x0 : (Option Nat)) (x2 : Int32) (x3 : Int32) (x4 : (Option Nat)) (x5 : Int32) (x6 : Int32) : Sn cx m_X13_meets eI 38 [(5, vI x5), (6, vI x6), (0, vA x0), (2, vI x2), (3, vI x3), (4, vA x4)] [] (f_X13_meets_l38 x0 x2 x3 x4 x5 x6) :=
  sn_lq2 (L := fun x5 x6 => [(5, vI x5), (6, vI x6), (0, vA x0), (2, vI x2), (3, vI x3), (4, vA x4)]) (fun k hk x5 x6 => s_X13_meets_b38 x0 x2 x3 x4 hk x5 x6) fuel x5 x6
def f_X13_meets (p0 : (Option Nat)) (p1 : Int32) (p2 : Int32) (p3 : Int32) : Mo Int32 :=
  mBd (mPutI 11 0 p0 (0 : Int32)) (fun _ => mBd (mCk 11 p0 (f_X13_areOrders p0 p1 p2 p3)) (fun r1 => (if ¬ r1 = 0 then mBd (mGetA 11 3 p0) (fun r2 => mBd (mGetA 9 4 r2) (fun r3 => mBd (mLdA 7 r3 p1) (fun r4 => f_X13_meets_l38 p0 p2 p3 r4 (0 : Int32) (1 : Int32)))) else mBd (mCk 11 p0 (f_X13_refused p0 (1 : Int32))) (fun r15 => mRt r15))))
set_option maxRecDepth 100000 in
theorem s_X13_meets {cx : CX} (p0 : (Option Nat)) (p1 : Int32) (p2 : Int32) (p3 : Int32) : Sn cx m_X13_meets eI 0 [(0, vA p0), (1, vI p1), (2, vI p2), (3, vI p3)] [] (f_X13_meets p0 p1 p2 p3) := by
  refine sn_aload_n (y := m_X13_meets) (pc := 0) dX13_meets_0 rfl ?_
  refine sn_iconst (y := m_X13_meets) (pc := 1) dX13_meets_1 kc_iconst_0 ?_
  refine sn_putI (y := m_X13_meets) (pc := 2) ca_11 rfl fk_X13_46 (Or.inl rfl) rfl dX13_meets_2 ?_
  refine sn_aload_n (y := m_X13_meets) (pc := 5) dX13_meets_5 rfl ?_
  refine sn_iload_n (y := m_X13_meets) (pc := 6) dX13_meets_6 rfl ?_
  refine sn_iload_n (y := m_X13_meets) (pc := 7) dX13_meets_7 rfl ?_
  refine sn_iload_n (y := m_X13_meets) (pc := 8) dX13_meets_8 rfl ?_
  refine sn_invV (y := m_X13_meets) (pc := 9) ca_11 (av := [vI p1, vI p2, vI p3]) (o := p0) (st := []) dX13_meets_9 lk_X13_388 im_X13_areOrders se_X13_areOrders rfl rfl rfl rfl ⟨by decide, by decide⟩ (c_X13_areOrders cx.1 p0 p1 p2 p3) (fun r1 => ?_)
  refine sn_if_ne (y := m_X13_meets) (pc := 12) (tgt := 21) dX13_meets_12 (by decide) (fun _ => ?_) (fun _ => ?_)
  · refine sn_aload_n (y := m_X13_meets) (pc := 21) dX13_meets_21 rfl ?_
    refine sn_getA (y := m_X13_meets) (pc := 22) ca_11 rfl fk_X13_369 (fun _ _ _ => rfl) dX13_meets_22 (fun r2 => ?_)
    refine sn_getA (y := m_X13_meets) (pc := 25) ca_9 rfl fk_X13_259 (fun _ _ _ => rfl) dX13_meets_25 (fun r3 => ?_)
    refine sn_iload_n (y := m_X13_meets) (pc := 28) dX13_meets_28 rfl ?_
    refine sn_aaload (y := m_X13_meets) (pc := 29) dX13_meets_29 (fun r4 => ?_)
    refine sn_astore (y := m_X13_meets) (pc := 30) dX13_meets_30 rfl ?_
    refine sn_iconst (y := m_X13_meets) (pc := 32) dX13_meets_32 kc_iconst_0 ?_
    refine sn_istore (y := m_X13_meets) (pc := 33) dX13_meets_33 rfl ?_
    refine sn_iconst (y := m_X13_meets) (pc := 35) dX13_meets_35 kc_iconst_1 ?_
    refine sn_istore (y := m_X13_meets) (pc := 36) dX13_meets_36 rfl ?_
    exact sn_sub rfl (s_X13_meets_l38 p0 p2 p3 r4 (0 : Int32) (1 : Int32))
  refine sn_aload_n (y := m_X13_meets) (pc := 15) dX13_meets_15 rfl ?_
  refine sn_iconst (y := m_X13_meets) (pc := 16) dX13_meets_16 kc_iconst_1 ?_
  refine sn_invV (y := m_X13_meets) (pc := 17) ca_11 (av := [vI (1 : Int32)]) (o := p0) (st := []) dX13_meets_17 lk_X13_52 im_X13_refused se_X13_refused rfl rfl rfl rfl ⟨by decide, by decide⟩ (c_X13_refused cx.1 p0 (1 : Int32)) (fun r15 => ?_)
  exact sn_ireturn rfl dX13_meets_20
set_option maxRecDepth 100000 in
theorem c_X13_meets (g : Gl) (p0 : (Option Nat)) (p1 : Int32) (p2 : Int32) (p3 : Int32) : Cn g m_X13_meets eI [vA p0, vI p1, vI p2, vI p3] (mCk 11 p0 (f_X13_meets p0 p1 p2 p3)) := cn_of_sn (by decide +kernel) rfl (fun r => ⟨r, rfl⟩) rfl (fun _ _ => sn_ck (s_X13_meets p0 p1 p2 p3))
/-! X13_even -/
def f_X13_even_j111 (k34 : Int32 → Int32 → Mo Int32) (k49 : Int32 → Int32 → Mo Int32) (x0 : (Option Nat)) (x2 : (Option Nat)) (x3 : Int32) (x4 : Int32) (x6 : Int32) (s0 : Int32) : Mo Int32 :=
  mNm (s0 + (0 : Int32)) (fun n11 => k49 n11 (x6 + 1))
set_option maxRecDepth 100000 in
theorem s_X13_even_j111 {cx : CX} {k34 : Int32 → Int32 → Mo Int32} {k49 : Int32 → Int32 → Mo Int32} (x0 : (Option Nat)) (x2 : (Option Nat)) (x3 : Int32) (x4 : Int32) (x6 : Int32) (s0 : Int32) (hk34 : ∀ (z3 : Int32) (z4 : Int32), Sn cx m_X13_even eI 34 [(3, vI z3), (4, vI z4), (0, vA x0), (2, vA x2)] [] (k34 z3 z4)) (hk49 : ∀ (z5 : Int32) (z6 : Int32), Sn cx m_X13_even eI 49 [(5, vI z5), (6, vI z6), (0, vA x0), (2, vA x2), (3, vI x3), (4, vI x4)] [] (k49 z5 z6)) : Sn cx m_X13_even eI 111 [(0, vA x0), (2, vA x2), (3, vI x3), (4, vI x4), (6, vI x6)] [vI s0] (f_X13_even_j111 k34 k49 x0 x2 x3 x4 x6 s0) := by
  refine sn_iconst (y := m_X13_even) (pc := 111) dX13_even_111 kc_iconst_0 ?_
  refine sn_iadd (y := m_X13_even) (pc := 112) dX13_even_112 ?_
  refine sn_istoreM (y := m_X13_even) (pc := 113) dX13_even_113 rfl (fun n11 => ?_)
  refine sn_iinc (y := m_X13_even) (pc := 115) (v := x6 + 1) dX13_even_115 rfl (by rfl) rfl ?_
  refine sn_goto (y := m_X13_even) (pc := 118) (tgt := 49) dX13_even_118 (by decide) ?_
  exact sn_sub rfl (hk49 n11 (x6 + 1))
def f_X13_even_b49 (k34 : Int32 → Int32 → Mo Int32) (x0 : (Option Nat)) (x2 : (Option Nat)) (x3 : Int32) (x4 : Int32) (k49 : Int32 → Int32 → Mo Int32) (x5 : Int32) (x6 : Int32) : Mo Int32 :=
  mBd (mGetI 10 0 x2) (fun r7 => (if x6 ≥ r7 then (if x3 = (-1 : Int32) then k34 x5 (x4 + 1) else (if x3 = x5 then k34 x5 (x4 + 1) else mBd (mCk 11 x0 (f_X13_good x0 (-2 : Int32))) (fun r8 => mRt r8))) else mBd (mGetI 10 0 x2) (fun r9 => mRq (¬ r9 = 0) (mNm (irem (x6 + x4) r9) (fun n10 => (if n10 = 0 then f_X13_even_j111 k34 k49 x0 x2 x3 x4 x6 x5 else mBd (mGetA 10 4 x2) (fun r12 => mBd (mLdI 1 r12 x6) (fun r13 => mBd (mGetI 10 1 x2) (fun r14 => mRq (¬ r14 = 0) ((if ¬ (irem r13 r14) = 0 then f_X13_even_j111 k34 k49 x0 x2 x3 x4 x6 x5 else mBd (mGetA 10 4 x2) (fun r15 => mBd (mLdI 1 r15 n10) (fun r16 => mBd (mGetI 10 1 x2) (fun r17 => mRq (¬ r17 = 0) ((if ¬ (irem r16 r17) = 0 then f_X13_even_j111 k34 k49 x0 x2 x3 x4 x6 x5 else mNm (x5 + (1 : Int32)) (fun n18 => k49 n18 (x6 + 1))))))))))))))))))
def f_X13_even_l49 (k34 : Int32 → Int32 → Mo Int32) (x0 : (Option Nat)) (x2 : (Option Nat)) (x3 : Int32) (x4 : Int32) : Int32 → Int32 → Mo Int32 := lq2 (f_X13_even_b49 k34 x0 x2 x3 x4) fuel
set_option maxRecDepth 100000 in
theorem s_X13_even_b49 {cx : CX} {k34 : Int32 → Int32 → Mo Int32} (x0 : (Option Nat)) (x2 : (Option Nat)) (x3 : Int32) (x4 : Int32) (hk34 : ∀ (z3 : Int32) (z4 : Int32), Sn cx m_X13_even eI 34 [(3, vI z3), (4, vI z4), (0, vA x0), (2, vA x2)] [] (k34 z3 z4)) {k49 : Int32 → Int32 → Mo Int32} (hk49 : ∀ (z5 : Int32) (z6 : Int32), Sn cx m_X13_even eI 49 [(5, vI z5), (6, vI z6), (0, vA x0), (2, vA x2), (3, vI x3), (4, vI x4)] [] (k49 z5 z6)) (x5 : Int32) (x6 : Int32) : Sn cx m_X13_even eI 49 [(5, vI x5), (6, vI x6), (0, vA x0), (2, vA x2), (3, vI x3), (4, vI x4)] [] (f_X13_even_b49 k34 x0 x2 x3 x4 k49 x5 x6) := by
  refine sn_iload (y := m_X13_even) (pc := 49) dX13_even_49 rfl ?_
  refine sn_aload_n (y := m_X13_even) (pc := 51) dX13_even_51 rfl ?_
  refine sn_getI (y := m_X13_even) (pc := 52) ca_10 rfl fk_X13_81 (fun _ _ _ => rfl) dX13_even_52 (fun r7 => ?_)
  refine sn_icmp_ge (y := m_X13_even) (pc := 55) (tgt := 121) dX13_even_55 (by decide) (fun _ => ?_) (fun _ => ?_)
  · refine sn_iload_n (y := m_X13_even) (pc := 121) dX13_even_121 rfl ?_
    refine sn_iconst (y := m_X13_even) (pc := 122) dX13_even_122 kc_iconst_m1 ?_
    refine sn_icmp_eq (y := m_X13_even) (pc := 123) (tgt := 139) dX13_even_123 (by decide) (fun _ => ?_) (fun _ => ?_)
    · refine sn_iload (y := m_X13_even) (pc := 139) dX13_even_139 rfl ?_
      refine sn_istore_n (y := m_X13_even) (pc := 141) dX13_even_141 rfl ?_
      refine sn_iinc (y := m_X13_even) (pc := 142) (v := x4 + 1) dX13_even_142 rfl (by rfl) rfl ?_
      refine sn_goto (y := m_X13_even) (pc := 145) (tgt := 34) dX13_even_145 (by decide) ?_
      exact sn_sub rfl (hk34 x5 (x4 + 1))
    refine sn_iload_n (y := m_X13_even) (pc := 126) dX13_even_126 rfl ?_
    refine sn_iload (y := m_X13_even) (pc := 127) dX13_even_127 rfl ?_
    refine sn_icmp_eq (y := m_X13_even) (pc := 129) (tgt := 139) dX13_even_129 (by decide) (fun _ => ?_) (fun _ => ?_)
    · refine sn_iload (y := m_X13_even) (pc := 139) dX13_even_139 rfl ?_
      refine sn_istore_n (y := m_X13_even) (pc := 141) dX13_even_141 rfl ?_
      refine sn_iinc (y := m_X13_even) (pc := 142) (v := x4 + 1) dX13_even_142 rfl (by rfl) rfl ?_
      refine sn_goto (y := m_X13_even) (pc := 145) (tgt := 34) dX13_even_145 (by decide) ?_
      exact sn_sub rfl (hk34 x5 (x4 + 1))
    refine sn_aload_n (y := m_X13_even) (pc := 132) dX13_even_132 rfl ?_
    refine sn_bipush (y := m_X13_even) (pc := 133) dX13_even_133 kc_bipush_m2 ?_
    refine sn_invV (y := m_X13_even) (pc := 135) ca_11 (av := [vI (-2 : Int32)]) (o := x0) (st := []) dX13_even_135 lk_X13_56 im_X13_good se_X13_good rfl rfl rfl rfl ⟨by decide, by decide⟩ (c_X13_good cx.1 x0 (-2 : Int32)) (fun r8 => ?_)
    exact sn_ireturn rfl dX13_even_138
  refine sn_iload (y := m_X13_even) (pc := 58) dX13_even_58 rfl ?_
  refine sn_iload (y := m_X13_even) (pc := 60) dX13_even_60 rfl ?_
  refine sn_iadd (y := m_X13_even) (pc := 62) dX13_even_62 ?_
  refine sn_aload_n (y := m_X13_even) (pc := 63) dX13_even_63 rfl ?_
  refine sn_getI (y := m_X13_even) (pc := 64) ca_10 rfl fk_X13_81 (fun _ _ _ => rfl) dX13_even_64 (fun r9 => ?_)
  refine sn_irem (y := m_X13_even) (pc := 67) dX13_even_67 ?_
  refine sn_istoreM (y := m_X13_even) (pc := 68) dX13_even_68 rfl (fun n10 => ?_)
  refine sn_iload (y := m_X13_even) (pc := 70) dX13_even_70 rfl ?_
  refine sn_iload (y := m_X13_even) (pc := 72) dX13_even_72 rfl ?_
  refine sn_if_eq (y := m_X13_even) (pc := 74) (tgt := 111) dX13_even_74 (by decide) (fun _ => ?_) (fun _ => ?_)
  · exact sn_sub rfl (s_X13_even_j111 x0 x2 x3 x4 x6 x5 hk34 hk49)
  refine sn_aload_n (y := m_X13_even) (pc := 77) dX13_even_77 rfl ?_
  refine sn_getA (y := m_X13_even) (pc := 78) ca_10 rfl fk_X13_84 (fun _ _ _ => rfl) dX13_even_78 (fun r12 => ?_)
  refine sn_iload (y := m_X13_even) (pc := 81) dX13_even_81 rfl ?_
  refine sn_iaload (y := m_X13_even) (pc := 83) dX13_even_83 (fun r13 => ?_)
  refine sn_aload_n (y := m_X13_even) (pc := 84) dX13_even_84 rfl ?_
  refine sn_getI (y := m_X13_even) (pc := 85) ca_10 rfl fk_X13_59 (fun _ _ _ => rfl) dX13_even_85 (fun r14 => ?_)
  refine sn_irem (y := m_X13_even) (pc := 88) dX13_even_88 ?_
  refine sn_if_ne (y := m_X13_even) (pc := 89) (tgt := 111) dX13_even_89 (by decide) (fun _ => ?_) (fun _ => ?_)
  · exact sn_sub rfl (s_X13_even_j111 x0 x2 x3 x4 x6 x5 hk34 hk49)
  refine sn_aload_n (y := m_X13_even) (pc := 92) dX13_even_92 rfl ?_
  refine sn_getA (y := m_X13_even) (pc := 93) ca_10 rfl fk_X13_84 (fun _ _ _ => rfl) dX13_even_93 (fun r15 => ?_)
  refine sn_iload (y := m_X13_even) (pc := 96) dX13_even_96 rfl ?_
  refine sn_iaload (y := m_X13_even) (pc := 98) dX13_even_98 (fun r16 => ?_)
  refine sn_aload_n (y := m_X13_even) (pc := 99) dX13_even_99 rfl ?_
  refine sn_getI (y := m_X13_even) (pc := 100) ca_10 rfl fk_X13_59 (fun _ _ _ => rfl) dX13_even_100 (fun r17 => ?_)
  refine sn_irem (y := m_X13_even) (pc := 103) dX13_even_103 ?_
  refine sn_if_ne (y := m_X13_even) (pc := 104) (tgt := 111) dX13_even_104 (by decide) (fun _ => ?_) (fun _ => ?_)
  · exact sn_sub rfl (s_X13_even_j111 x0 x2 x3 x4 x6 x5 hk34 hk49)
  refine sn_iconst (y := m_X13_even) (pc := 107) dX13_even_107 kc_iconst_1 ?_
  refine sn_goto (y := m_X13_even) (pc := 108) (tgt := 112) dX13_even_108 (by decide) ?_
  refine sn_iadd (y := m_X13_even) (pc := 112) dX13_even_112 ?_
  refine sn_istoreM (y := m_X13_even) (pc := 113) dX13_even_113 rfl (fun n18 => ?_)
  refine sn_iinc (y := m_X13_even) (pc := 115) (v := x6 + 1) dX13_even_115 rfl (by rfl) rfl ?_
  refine sn_goto (y := m_X13_even) (pc := 118) (tgt := 49) dX13_even_118 (by decide) ?_
  exact sn_sub rfl (hk49 n18 (x6 + 1))
set_option maxRecDepth 100000 in
theorem s_X13_even_l49 {cx : CX} {k34 : Int32 → Int32 → Mo Int32} (x0 : (Option Nat)) (x2 : (Option Nat)) (x3 : Int32) (x4 : Int32) (hk34 : ∀ (z3 : Int32) (z4 : Int32), Sn cx m_X13_even eI 34 [(3, vI z3), (4, vI z4), (0, vA x0), (2, vA x2)] [] (k34 z3 z4)) (x5 : Int32) (x6 : Int32) : Sn cx m_X13_even eI 49 [(5, vI x5), (6, vI x6), (0, vA x0), (2, vA x2), (3, vI x3), (4, vI x4)] [] (f_X13_even_l49 k34 x0 x2 x3 x4 x5 x6) :=
  sn_lq2 (L := fun x5 x6 => [(5, vI x5), (6, vI x6), (0, vA x0), (2, vA x2), (3, vI x3), (4, vI x4)]) (fun k hk x5 x6 => s_X13_even_b49 x0 x2 x3 x4 hk34 hk x5 x6) fuel x5 x6
def f_X13_even_b34 (x0 : (Option Nat)) (x2 : (Option Nat)) (k34 : Int32 → Int32 → Mo Int32) (x3 : Int32) (x4 : Int32) : Mo Int32 :=
  mBd (mGetI 10 0 x2) (fun r5 => (if x4 ≥ r5 then mBd (mCk 11 x0 (f_X13_good x0 x3)) (fun r6 => mRt r6) else f_X13_even_l49 k34 x0 x2 x3 x4 (0 : Int32) (1 : Int32)))
def f_X13_even_l34 (x0 : (Option Nat)) (x2 : (Option Nat)) : Int32 → Int32 → Mo Int32 := lq2 (f_X13_even_b34 x0 x2) fuel
set_option maxRecDepth 100000 in
theorem s_X13_even_b34 {cx : CX} (x0 : (Option Nat)) (x2 : (Option Nat)) {k34 : Int32 → Int32 → Mo Int32} (hk34 : ∀ (z3 : Int32) (z4 : Int32), Sn cx m_X13_even eI 34 [(3, vI z3), (4, vI z4), (0, vA x0), (2, vA x2)] [] (k34 z3 z4)) (x3 : Int32) (x4 : Int32) : Sn cx m_X13_even eI 34 [(3, vI x3), (4, vI x4), (0, vA x0), (2, vA x2)] [] (f_X13_even_b34 x0 x2 k34 x3 x4) := by
  refine sn_iload (y := m_X13_even) (pc := 34) dX13_even_34 rfl ?_
  refine sn_aload_n (y := m_X13_even) (pc := 36) dX13_even_36 rfl ?_
  refine sn_getI (y := m_X13_even) (pc := 37) ca_10 rfl fk_X13_81 (fun _ _ _ => rfl) dX13_even_37 (fun r5 => ?_)
  refine sn_icmp_ge (y := m_X13_even) (pc := 40) (tgt := 148) dX13_even_40 (by decide) (fun _ => ?_) (fun _ => ?_)
  · refine sn_aload_n (y := m_X13_even) (pc := 148) dX13_even_148 rfl ?_
    refine sn_iload_n (y := m_X13_even) (pc := 149) dX13_even_149 rfl ?_
    refine sn_invV (y := m_X13_even) (pc := 150) ca_11 (av := [vI x3]) (o := x0) (st := []) dX13_even_150 lk_X13_56 im_X13_good se_X13_good rfl rfl rfl rfl ⟨by decide, by decide⟩ (c_X13_good cx.1 x0 x3) (fun r6 => ?_)
    exact sn_ireturn rfl dX13_even_153
  refine sn_iconst (y := m_X13_even) (pc := 43) dX13_even_43 kc_iconst_0 ?_
  refine sn_istore (y := m_X13_even) (pc := 44) dX13_even_44 rfl ?_
  refine sn_iconst (y := m_X13_even) (pc := 46) dX13_even_46 kc_iconst_1 ?_
  refine sn_istore (y := m_X13_even) (pc := 47) dX13_even_47 rfl ?_
  exact sn_sub rfl (s_X13_even_l49 x0 x2 x3 x4 hk34 (0 : Int32) (1 : Int32))
set_option maxRecDepth 100000 in
theorem s_X13_even_l34 {cx : CX} (x0 : (Option Nat)) (x2 : (Option Nat)) (x3 : Int32) (x4 : Int32) : Sn cx m_X13_even eI 34 [(3, vI x3), (4, vI x4), (0, vA x0), (2, vA x2)] [] (f_X13_even_l34 x0 x2 x3 x4) :=
  sn_lq2 (L := fun x3 x4 => [(3, vI x3), (4, vI x4), (0, vA x0), (2, vA x2)]) (fun k hk x3 x4 => s_X13_even_b34 x0 x2 hk x3 x4) fuel x3 x4
def f_X13_even (p0 : (Option Nat)) (p1 : Int32) : Mo Int32 :=
  mBd (mPutI 11 0 p0 (0 : Int32)) (fun _ => mBd (mCk 11 p0 (f_X13_isField p0 p1)) (fun r1 => (if ¬ r1 = 0 then mBd (mGetA 11 3 p0) (fun r2 => mBd (mGetA 9 4 r2) (fun r3 => mBd (mLdA 7 r3 p1) (fun r4 => f_X13_even_l34 p0 r4 (-1 : Int32) (1 : Int32)))) else mBd (mCk 11 p0 (f_X13_refused p0 (1 : Int32))) (fun r19 => mRt r19))))
set_option maxRecDepth 100000 in
theorem s_X13_even {cx : CX} (p0 : (Option Nat)) (p1 : Int32) : Sn cx m_X13_even eI 0 [(0, vA p0), (1, vI p1)] [] (f_X13_even p0 p1) := by
  refine sn_aload_n (y := m_X13_even) (pc := 0) dX13_even_0 rfl ?_
  refine sn_iconst (y := m_X13_even) (pc := 1) dX13_even_1 kc_iconst_0 ?_
  refine sn_putI (y := m_X13_even) (pc := 2) ca_11 rfl fk_X13_46 (Or.inl rfl) rfl dX13_even_2 ?_
  refine sn_aload_n (y := m_X13_even) (pc := 5) dX13_even_5 rfl ?_
  refine sn_iload_n (y := m_X13_even) (pc := 6) dX13_even_6 rfl ?_
  refine sn_invV (y := m_X13_even) (pc := 7) ca_11 (av := [vI p1]) (o := p0) (st := []) dX13_even_7 lk_X13_381 im_X13_isField se_X13_isField rfl rfl rfl rfl ⟨by decide, by decide⟩ (c_X13_isField cx.1 p0 p1) (fun r1 => ?_)
  refine sn_if_ne (y := m_X13_even) (pc := 10) (tgt := 19) dX13_even_10 (by decide) (fun _ => ?_) (fun _ => ?_)
  · refine sn_aload_n (y := m_X13_even) (pc := 19) dX13_even_19 rfl ?_
    refine sn_getA (y := m_X13_even) (pc := 20) ca_11 rfl fk_X13_369 (fun _ _ _ => rfl) dX13_even_20 (fun r2 => ?_)
    refine sn_getA (y := m_X13_even) (pc := 23) ca_9 rfl fk_X13_259 (fun _ _ _ => rfl) dX13_even_23 (fun r3 => ?_)
    refine sn_iload_n (y := m_X13_even) (pc := 26) dX13_even_26 rfl ?_
    refine sn_aaload (y := m_X13_even) (pc := 27) dX13_even_27 (fun r4 => ?_)
    refine sn_astore_n (y := m_X13_even) (pc := 28) dX13_even_28 rfl ?_
    refine sn_iconst (y := m_X13_even) (pc := 29) dX13_even_29 kc_iconst_m1 ?_
    refine sn_istore_n (y := m_X13_even) (pc := 30) dX13_even_30 rfl ?_
    refine sn_iconst (y := m_X13_even) (pc := 31) dX13_even_31 kc_iconst_1 ?_
    refine sn_istore (y := m_X13_even) (pc := 32) dX13_even_32 rfl ?_
    exact sn_sub rfl (s_X13_even_l34 p0 r4 (-1 : Int32) (1 : Int32))
  refine sn_aload_n (y := m_X13_even) (pc := 13) dX13_even_13 rfl ?_
  refine sn_iconst (y := m_X13_even) (pc := 14) dX13_even_14 kc_iconst_1 ?_
  refine sn_invV (y := m_X13_even) (pc := 15) ca_11 (av := [vI (1 : Int32)]) (o := p0) (st := []) dX13_even_15 lk_X13_52 im_X13_refused se_X13_refused rfl rfl rfl rfl ⟨by decide, by decide⟩ (c_X13_refused cx.1 p0 (1 : Int32)) (fun r19 => ?_)
  exact sn_ireturn rfl dX13_even_18
set_option maxRecDepth 100000 in
theorem c_X13_even (g : Gl) (p0 : (Option Nat)) (p1 : Int32) : Cn g m_X13_even eI [vA p0, vI p1] (mCk 11 p0 (f_X13_even p0 p1)) := cn_of_sn (by decide +kernel) rfl (fun r => ⟨r, rfl⟩) rfl (fun _ _ => sn_ck (s_X13_even p0 p1))
/-! X13_rowOf -/
def f_X13_rowOf_b2 (x0 : (Option Nat)) (x1 : (Option Nat)) (x2 : Int32) (k2 : Int32 → Mo Unit) (x3 : Int32) : Mo Unit :=
  mBd (mGetI 10 0 x1) (fun r1 => (if x3 ≥ r1 then mRt () else mBd (mGetA 11 23 x0) (fun r2 => mBd (mGetI 10 0 x1) (fun r3 => mRq (¬ r3 = 0) ((if ¬ (irem (x2 + x3) r3) = 0 then mBd (mGetA 10 4 x1) (fun r4 => mBd (mGetI 10 0 x1) (fun r5 => mRq (¬ r5 = 0) (mBd (mLdI 1 r4 (irem (x2 + x3) r5)) (fun r6 => (if ¬ (irem r6 (2 : Int32)) = 0 then mBd (mStI r2 x3 (-1 : Int32)) (fun _ => k2 (x3 + 1)) else mBd (mStI r2 x3 (1 : Int32)) (fun _ => k2 (x3 + 1))))))) else mBd (mStI r2 x3 (1 : Int32)) (fun _ => k2 (x3 + 1))))))))
def f_X13_rowOf_l2 (x0 : (Option Nat)) (x1 : (Option Nat)) (x2 : Int32) : Int32 → Mo Unit := lq1 (f_X13_rowOf_b2 x0 x1 x2) fuel
set_option maxRecDepth 100000 in
theorem s_X13_rowOf_b2 {cx : CX} (x0 : (Option Nat)) (x1 : (Option Nat)) (x2 : Int32) {k2 : Int32 → Mo Unit} (hk2 : ∀ (z3 : Int32), Sn cx m_X13_rowOf eV 2 [(3, vI z3), (0, vA x0), (1, vA x1), (2, vI x2)] [] (k2 z3)) (x3 : Int32) : Sn cx m_X13_rowOf eV 2 [(3, vI x3), (0, vA x0), (1, vA x1), (2, vI x2)] [] (f_X13_rowOf_b2 x0 x1 x2 k2 x3) := by
  refine sn_iload_n (y := m_X13_rowOf) (pc := 2) dX13_rowOf_2 rfl ?_
  refine sn_aload_n (y := m_X13_rowOf) (pc := 3) dX13_rowOf_3 rfl ?_
  refine sn_getI (y := m_X13_rowOf) (pc := 4) ca_10 rfl fk_X13_81 (fun _ _ _ => rfl) dX13_rowOf_4 (fun r1 => ?_)
  refine sn_icmp_ge (y := m_X13_rowOf) (pc := 7) (tgt := 60) dX13_rowOf_7 (by decide) (fun _ => ?_) (fun _ => ?_)
  · exact sn_return rfl dX13_rowOf_60
  refine sn_aload_n (y := m_X13_rowOf) (pc := 10) dX13_rowOf_10 rfl ?_
  refine sn_getA (y := m_X13_rowOf) (pc := 11) ca_11 rfl fk_X13_31 (fun _ _ _ => rfl) dX13_rowOf_11 (fun r2 => ?_)
  refine sn_iload_n (y := m_X13_rowOf) (pc := 14) dX13_rowOf_14 rfl ?_
  refine sn_iload_n (y := m_X13_rowOf) (pc := 15) dX13_rowOf_15 rfl ?_
  refine sn_iload_n (y := m_X13_rowOf) (pc := 16) dX13_rowOf_16 rfl ?_
  refine sn_iadd (y := m_X13_rowOf) (pc := 17) dX13_rowOf_17 ?_
  refine sn_aload_n (y := m_X13_rowOf) (pc := 18) dX13_rowOf_18 rfl ?_
  refine sn_getI (y := m_X13_rowOf) (pc := 19) ca_10 rfl fk_X13_81 (fun _ _ _ => rfl) dX13_rowOf_19 (fun r3 => ?_)
  refine sn_irem (y := m_X13_rowOf) (pc := 22) dX13_rowOf_22 ?_
  refine sn_if_ne (y := m_X13_rowOf) (pc := 23) (tgt := 30) dX13_rowOf_23 (by decide) (fun _ => ?_) (fun _ => ?_)
  · refine sn_aload_n (y := m_X13_rowOf) (pc := 30) dX13_rowOf_30 rfl ?_
    refine sn_getA (y := m_X13_rowOf) (pc := 31) ca_10 rfl fk_X13_84 (fun _ _ _ => rfl) dX13_rowOf_31 (fun r4 => ?_)
    refine sn_iload_n (y := m_X13_rowOf) (pc := 34) dX13_rowOf_34 rfl ?_
    refine sn_iload_n (y := m_X13_rowOf) (pc := 35) dX13_rowOf_35 rfl ?_
    refine sn_iadd (y := m_X13_rowOf) (pc := 36) dX13_rowOf_36 ?_
    refine sn_aload_n (y := m_X13_rowOf) (pc := 37) dX13_rowOf_37 rfl ?_
    refine sn_getI (y := m_X13_rowOf) (pc := 38) ca_10 rfl fk_X13_81 (fun _ _ _ => rfl) dX13_rowOf_38 (fun r5 => ?_)
    refine sn_irem (y := m_X13_rowOf) (pc := 41) dX13_rowOf_41 ?_
    refine sn_iaload (y := m_X13_rowOf) (pc := 42) dX13_rowOf_42 (fun r6 => ?_)
    refine sn_iconst (y := m_X13_rowOf) (pc := 43) dX13_rowOf_43 kc_iconst_2 ?_
    refine sn_iremC (y := m_X13_rowOf) (pc := 44) (by decide) dX13_rowOf_44 ?_
    refine sn_if_ne (y := m_X13_rowOf) (pc := 45) (tgt := 52) dX13_rowOf_45 (by decide) (fun _ => ?_) (fun _ => ?_)
    · refine sn_iconst (y := m_X13_rowOf) (pc := 52) dX13_rowOf_52 kc_iconst_m1 ?_
      refine sn_iastore (y := m_X13_rowOf) (pc := 53) dX13_rowOf_53 ?_
      refine sn_iinc (y := m_X13_rowOf) (pc := 54) (v := x3 + 1) dX13_rowOf_54 rfl (by rfl) rfl ?_
      refine sn_goto (y := m_X13_rowOf) (pc := 57) (tgt := 2) dX13_rowOf_57 (by decide) ?_
      exact sn_sub rfl (hk2 (x3 + 1))
    refine sn_iconst (y := m_X13_rowOf) (pc := 48) dX13_rowOf_48 kc_iconst_1 ?_
    refine sn_goto (y := m_X13_rowOf) (pc := 49) (tgt := 53) dX13_rowOf_49 (by decide) ?_
    refine sn_iastore (y := m_X13_rowOf) (pc := 53) dX13_rowOf_53 ?_
    refine sn_iinc (y := m_X13_rowOf) (pc := 54) (v := x3 + 1) dX13_rowOf_54 rfl (by rfl) rfl ?_
    refine sn_goto (y := m_X13_rowOf) (pc := 57) (tgt := 2) dX13_rowOf_57 (by decide) ?_
    exact sn_sub rfl (hk2 (x3 + 1))
  refine sn_iconst (y := m_X13_rowOf) (pc := 26) dX13_rowOf_26 kc_iconst_1 ?_
  refine sn_goto (y := m_X13_rowOf) (pc := 27) (tgt := 53) dX13_rowOf_27 (by decide) ?_
  refine sn_iastore (y := m_X13_rowOf) (pc := 53) dX13_rowOf_53 ?_
  refine sn_iinc (y := m_X13_rowOf) (pc := 54) (v := x3 + 1) dX13_rowOf_54 rfl (by rfl) rfl ?_
  refine sn_goto (y := m_X13_rowOf) (pc := 57) (tgt := 2) dX13_rowOf_57 (by decide) ?_
  exact sn_sub rfl (hk2 (x3 + 1))
set_option maxRecDepth 100000 in
theorem s_X13_rowOf_l2 {cx : CX} (x0 : (Option Nat)) (x1 : (Option Nat)) (x2 : Int32) (x3 : Int32) : Sn cx m_X13_rowOf eV 2 [(3, vI x3), (0, vA x0), (1, vA x1), (2, vI x2)] [] (f_X13_rowOf_l2 x0 x1 x2 x3) :=
  sn_lq1 (L := fun x3 => [(3, vI x3), (0, vA x0), (1, vA x1), (2, vI x2)]) (fun k hk x3 => s_X13_rowOf_b2 x0 x1 x2 hk x3) fuel x3
def f_X13_rowOf (p0 : (Option Nat)) (p1 : (Option Nat)) (p2 : Int32) : Mo Unit :=
  f_X13_rowOf_l2 p0 p1 p2 (0 : Int32)
set_option maxRecDepth 100000 in
theorem s_X13_rowOf {cx : CX} (p0 : (Option Nat)) (p1 : (Option Nat)) (p2 : Int32) : Sn cx m_X13_rowOf eV 0 [(0, vA p0), (1, vA p1), (2, vI p2)] [] (f_X13_rowOf p0 p1 p2) := by
  refine sn_iconst (y := m_X13_rowOf) (pc := 0) dX13_rowOf_0 kc_iconst_0 ?_
  refine sn_istore_n (y := m_X13_rowOf) (pc := 1) dX13_rowOf_1 rfl ?_
  exact sn_sub rfl (s_X13_rowOf_l2 p0 p1 p2 (0 : Int32))
set_option maxRecDepth 100000 in
theorem c_X13_rowOf (g : Gl) (p0 : (Option Nat)) (p1 : (Option Nat)) (p2 : Int32) : Cn g m_X13_rowOf eV [vA p0, vA p1, vI p2] (mCk 11 p0 (f_X13_rowOf p0 p1 p2)) := cn_of_sn (by decide +kernel) rfl (fun _ => rfl) rfl (fun _ _ => sn_ck (s_X13_rowOf p0 p1 p2))
/-! X13_echoOf -/
def f_X13_echoOf_b5 (x0 : (Option Nat)) (x1 : (Option Nat)) (x2 : Int32) (k5 : Int32 → Int32 → Mo Int32) (x3 : Int32) (x4 : Int32) : Mo Int32 :=
  mBd (mGetI 10 0 x1) (fun r1 => (if (x4 + x2) ≥ r1 then mRt x3 else mBd (mGetA 11 23 x0) (fun r2 => mBd (mLdI 1 r2 x4) (fun r3 => mBd (mGetA 11 23 x0) (fun r4 => mBd (mLdI 1 r4 (x4 + x2)) (fun r5 => mNm (x3 + (r3 * r5)) (fun n6 => k5 n6 (x4 + 1))))))))
def f_X13_echoOf_l5 (x0 : (Option Nat)) (x1 : (Option Nat)) (x2 : Int32) : Int32 → Int32 → Mo Int32 := lq2 (f_X13_echoOf_b5 x0 x1 x2) fuel
set_option maxRecDepth 100000 in
theorem s_X13_echoOf_b5 {cx : CX} (x0 : (Option Nat)) (x1 : (Option Nat)) (x2 : Int32) {k5 : Int32 → Int32 → Mo Int32} (hk5 : ∀ (z3 : Int32) (z4 : Int32), Sn cx m_X13_echoOf eI 5 [(3, vI z3), (4, vI z4), (0, vA x0), (1, vA x1), (2, vI x2)] [] (k5 z3 z4)) (x3 : Int32) (x4 : Int32) : Sn cx m_X13_echoOf eI 5 [(3, vI x3), (4, vI x4), (0, vA x0), (1, vA x1), (2, vI x2)] [] (f_X13_echoOf_b5 x0 x1 x2 k5 x3 x4) := by
  refine sn_iload (y := m_X13_echoOf) (pc := 5) dX13_echoOf_5 rfl ?_
  refine sn_iload_n (y := m_X13_echoOf) (pc := 7) dX13_echoOf_7 rfl ?_
  refine sn_iadd (y := m_X13_echoOf) (pc := 8) dX13_echoOf_8 ?_
  refine sn_aload_n (y := m_X13_echoOf) (pc := 9) dX13_echoOf_9 rfl ?_
  refine sn_getI (y := m_X13_echoOf) (pc := 10) ca_10 rfl fk_X13_81 (fun _ _ _ => rfl) dX13_echoOf_10 (fun r1 => ?_)
  refine sn_icmp_ge (y := m_X13_echoOf) (pc := 13) (tgt := 42) dX13_echoOf_13 (by decide) (fun _ => ?_) (fun _ => ?_)
  · refine sn_iload_n (y := m_X13_echoOf) (pc := 42) dX13_echoOf_42 rfl ?_
    exact sn_ireturn rfl dX13_echoOf_43
  refine sn_iload_n (y := m_X13_echoOf) (pc := 16) dX13_echoOf_16 rfl ?_
  refine sn_aload_n (y := m_X13_echoOf) (pc := 17) dX13_echoOf_17 rfl ?_
  refine sn_getA (y := m_X13_echoOf) (pc := 18) ca_11 rfl fk_X13_31 (fun _ _ _ => rfl) dX13_echoOf_18 (fun r2 => ?_)
  refine sn_iload (y := m_X13_echoOf) (pc := 21) dX13_echoOf_21 rfl ?_
  refine sn_iaload (y := m_X13_echoOf) (pc := 23) dX13_echoOf_23 (fun r3 => ?_)
  refine sn_aload_n (y := m_X13_echoOf) (pc := 24) dX13_echoOf_24 rfl ?_
  refine sn_getA (y := m_X13_echoOf) (pc := 25) ca_11 rfl fk_X13_31 (fun _ _ _ => rfl) dX13_echoOf_25 (fun r4 => ?_)
  refine sn_iload (y := m_X13_echoOf) (pc := 28) dX13_echoOf_28 rfl ?_
  refine sn_iload_n (y := m_X13_echoOf) (pc := 30) dX13_echoOf_30 rfl ?_
  refine sn_iadd (y := m_X13_echoOf) (pc := 31) dX13_echoOf_31 ?_
  refine sn_iaload (y := m_X13_echoOf) (pc := 32) dX13_echoOf_32 (fun r5 => ?_)
  refine sn_imul (y := m_X13_echoOf) (pc := 33) dX13_echoOf_33 ?_
  refine sn_iadd (y := m_X13_echoOf) (pc := 34) dX13_echoOf_34 ?_
  refine sn_istore_nM (y := m_X13_echoOf) (pc := 35) dX13_echoOf_35 rfl (fun n6 => ?_)
  refine sn_iinc (y := m_X13_echoOf) (pc := 36) (v := x4 + 1) dX13_echoOf_36 rfl (by rfl) rfl ?_
  refine sn_goto (y := m_X13_echoOf) (pc := 39) (tgt := 5) dX13_echoOf_39 (by decide) ?_
  exact sn_sub rfl (hk5 n6 (x4 + 1))
set_option maxRecDepth 100000 in
theorem s_X13_echoOf_l5 {cx : CX} (x0 : (Option Nat)) (x1 : (Option Nat)) (x2 : Int32) (x3 : Int32) (x4 : Int32) : Sn cx m_X13_echoOf eI 5 [(3, vI x3), (4, vI x4), (0, vA x0), (1, vA x1), (2, vI x2)] [] (f_X13_echoOf_l5 x0 x1 x2 x3 x4) :=
  sn_lq2 (L := fun x3 x4 => [(3, vI x3), (4, vI x4), (0, vA x0), (1, vA x1), (2, vI x2)]) (fun k hk x3 x4 => s_X13_echoOf_b5 x0 x1 x2 hk x3 x4) fuel x3 x4
def f_X13_echoOf (p0 : (Option Nat)) (p1 : (Option Nat)) (p2 : Int32) : Mo Int32 :=
  f_X13_echoOf_l5 p0 p1 p2 (0 : Int32) (0 : Int32)
set_option maxRecDepth 100000 in
theorem s_X13_echoOf {cx : CX} (p0 : (Option Nat)) (p1 : (Option Nat)) (p2 : Int32) : Sn cx m_X13_echoOf eI 0 [(0, vA p0), (1, vA p1), (2, vI p2)] [] (f_X13_echoOf p0 p1 p2) := by
  refine sn_iconst (y := m_X13_echoOf) (pc := 0) dX13_echoOf_0 kc_iconst_0 ?_
  refine sn_istore_n (y := m_X13_echoOf) (pc := 1) dX13_echoOf_1 rfl ?_
  refine sn_iconst (y := m_X13_echoOf) (pc := 2) dX13_echoOf_2 kc_iconst_0 ?_
  refine sn_istore (y := m_X13_echoOf) (pc := 3) dX13_echoOf_3 rfl ?_
  exact sn_sub rfl (s_X13_echoOf_l5 p0 p1 p2 (0 : Int32) (0 : Int32))
set_option maxRecDepth 100000 in
theorem c_X13_echoOf (g : Gl) (p0 : (Option Nat)) (p1 : (Option Nat)) (p2 : Int32) : Cn g m_X13_echoOf eI [vA p0, vA p1, vI p2] (mCk 11 p0 (f_X13_echoOf p0 p1 p2)) := cn_of_sn (by decide +kernel) rfl (fun r => ⟨r, rfl⟩) rfl (fun _ _ => sn_ck (s_X13_echoOf p0 p1 p2))
/-! X13_noiseOf -/
def f_X13_noiseOf_b11 (x0 : (Option Nat)) (x1 : (Option Nat)) (k11 : Int64 → Int32 → Mo Int64) (x3 : Int64) (x5 : Int32) : Mo Int64 :=
  mBd (mGetI 10 0 x1) (fun r1 => (if x5 ≥ r1 then mRt x3 else mBd (mCk 11 x0 (f_X13_echoOf x0 x1 x5)) (fun r2 => mBd (mCk 11 x0 (f_X13_echoOf x0 x1 x5)) (fun r3 => mNm (x3 + ((r2.toInt64) * (r3.toInt64))) (fun n4 => k11 n4 (x5 + 1))))))
def f_X13_noiseOf_l11 (x0 : (Option Nat)) (x1 : (Option Nat)) : Int64 → Int32 → Mo Int64 := lq2 (f_X13_noiseOf_b11 x0 x1) fuel
set_option maxRecDepth 100000 in
theorem s_X13_noiseOf_b11 {cx : CX} (x0 : (Option Nat)) (x1 : (Option Nat)) {k11 : Int64 → Int32 → Mo Int64} (hk11 : ∀ (z3 : Int64) (z5 : Int32), Sn cx m_X13_noiseOf eJ 11 [(3, vJ z3), (5, vI z5), (0, vA x0), (1, vA x1)] [] (k11 z3 z5)) (x3 : Int64) (x5 : Int32) : Sn cx m_X13_noiseOf eJ 11 [(3, vJ x3), (5, vI x5), (0, vA x0), (1, vA x1)] [] (f_X13_noiseOf_b11 x0 x1 k11 x3 x5) := by
  refine sn_iload (y := m_X13_noiseOf) (pc := 11) dX13_noiseOf_11 rfl ?_
  refine sn_aload_n (y := m_X13_noiseOf) (pc := 13) dX13_noiseOf_13 rfl ?_
  refine sn_getI (y := m_X13_noiseOf) (pc := 14) ca_10 rfl fk_X13_81 (fun _ _ _ => rfl) dX13_noiseOf_14 (fun r1 => ?_)
  refine sn_icmp_ge (y := m_X13_noiseOf) (pc := 17) (tgt := 46) dX13_noiseOf_17 (by decide) (fun _ => ?_) (fun _ => ?_)
  · refine sn_lload_n (y := m_X13_noiseOf) (pc := 46) dX13_noiseOf_46 rfl ?_
    exact sn_lreturn rfl dX13_noiseOf_47
  refine sn_lload_n (y := m_X13_noiseOf) (pc := 20) dX13_noiseOf_20 rfl ?_
  refine sn_aload_n (y := m_X13_noiseOf) (pc := 21) dX13_noiseOf_21 rfl ?_
  refine sn_aload_n (y := m_X13_noiseOf) (pc := 22) dX13_noiseOf_22 rfl ?_
  refine sn_iload (y := m_X13_noiseOf) (pc := 23) dX13_noiseOf_23 rfl ?_
  refine sn_invV (y := m_X13_noiseOf) (pc := 25) ca_11 (av := [vA x1, vI x5]) (o := x0) (st := [vJ x3]) dX13_noiseOf_25 lk_X13_441 im_X13_echoOf se_X13_echoOf rfl rfl rfl rfl ⟨by decide, by decide⟩ (c_X13_echoOf cx.1 x0 x1 x5) (fun r2 => ?_)
  refine sn_i2l (y := m_X13_noiseOf) (pc := 28) dX13_noiseOf_28 ?_
  refine sn_aload_n (y := m_X13_noiseOf) (pc := 29) dX13_noiseOf_29 rfl ?_
  refine sn_aload_n (y := m_X13_noiseOf) (pc := 30) dX13_noiseOf_30 rfl ?_
  refine sn_iload (y := m_X13_noiseOf) (pc := 31) dX13_noiseOf_31 rfl ?_
  refine sn_invV (y := m_X13_noiseOf) (pc := 33) ca_11 (av := [vA x1, vI x5]) (o := x0) (st := [vJ (r2.toInt64), vJ x3]) dX13_noiseOf_33 lk_X13_441 im_X13_echoOf se_X13_echoOf rfl rfl rfl rfl ⟨by decide, by decide⟩ (c_X13_echoOf cx.1 x0 x1 x5) (fun r3 => ?_)
  refine sn_i2l (y := m_X13_noiseOf) (pc := 36) dX13_noiseOf_36 ?_
  refine sn_lmul (y := m_X13_noiseOf) (pc := 37) dX13_noiseOf_37 ?_
  refine sn_ladd (y := m_X13_noiseOf) (pc := 38) dX13_noiseOf_38 ?_
  refine sn_lstore_nM (y := m_X13_noiseOf) (pc := 39) dX13_noiseOf_39 rfl (fun n4 => ?_)
  refine sn_iinc (y := m_X13_noiseOf) (pc := 40) (v := x5 + 1) dX13_noiseOf_40 rfl (by rfl) rfl ?_
  refine sn_goto (y := m_X13_noiseOf) (pc := 43) (tgt := 11) dX13_noiseOf_43 (by decide) ?_
  exact sn_sub rfl (hk11 n4 (x5 + 1))
set_option maxRecDepth 100000 in
theorem s_X13_noiseOf_l11 {cx : CX} (x0 : (Option Nat)) (x1 : (Option Nat)) (x3 : Int64) (x5 : Int32) : Sn cx m_X13_noiseOf eJ 11 [(3, vJ x3), (5, vI x5), (0, vA x0), (1, vA x1)] [] (f_X13_noiseOf_l11 x0 x1 x3 x5) :=
  sn_lq2 (L := fun x3 x5 => [(3, vJ x3), (5, vI x5), (0, vA x0), (1, vA x1)]) (fun k hk x3 x5 => s_X13_noiseOf_b11 x0 x1 hk x3 x5) fuel x3 x5
def f_X13_noiseOf (p0 : (Option Nat)) (p1 : (Option Nat)) (p2 : Int32) : Mo Int64 :=
  mBd (mCk 11 p0 (f_X13_rowOf p0 p1 p2)) (fun _ => f_X13_noiseOf_l11 p0 p1 (0 : Int64) (1 : Int32))
set_option maxRecDepth 100000 in
theorem s_X13_noiseOf {cx : CX} (p0 : (Option Nat)) (p1 : (Option Nat)) (p2 : Int32) : Sn cx m_X13_noiseOf eJ 0 [(0, vA p0), (1, vA p1), (2, vI p2)] [] (f_X13_noiseOf p0 p1 p2) := by
  refine sn_aload_n (y := m_X13_noiseOf) (pc := 0) dX13_noiseOf_0 rfl ?_
  refine sn_aload_n (y := m_X13_noiseOf) (pc := 1) dX13_noiseOf_1 rfl ?_
  refine sn_iload_n (y := m_X13_noiseOf) (pc := 2) dX13_noiseOf_2 rfl ?_
  refine sn_invV (y := m_X13_noiseOf) (pc := 3) ca_11 (av := [vA p1, vI p2]) (o := p0) (st := []) dX13_noiseOf_3 lk_X13_438 im_X13_rowOf se_X13_rowOf rfl rfl rfl rfl ⟨by decide, by decide⟩ (c_X13_rowOf cx.1 p0 p1 p2) (fun _ => ?_)
  refine sn_lconst (y := m_X13_noiseOf) (pc := 6) dX13_noiseOf_6 kc_lconst_0 ?_
  refine sn_lstore_n (y := m_X13_noiseOf) (pc := 7) dX13_noiseOf_7 rfl ?_
  refine sn_iconst (y := m_X13_noiseOf) (pc := 8) dX13_noiseOf_8 kc_iconst_1 ?_
  refine sn_istore (y := m_X13_noiseOf) (pc := 9) dX13_noiseOf_9 rfl ?_
  exact sn_sub rfl (s_X13_noiseOf_l11 p0 p1 (0 : Int64) (1 : Int32))
set_option maxRecDepth 100000 in
theorem c_X13_noiseOf (g : Gl) (p0 : (Option Nat)) (p1 : (Option Nat)) (p2 : Int32) : Cn g m_X13_noiseOf eJ [vA p0, vA p1, vI p2] (mCk 11 p0 (f_X13_noiseOf p0 p1 p2)) := cn_of_sn (by decide +kernel) rfl (fun r => ⟨r, rfl⟩) rfl (fun _ _ => sn_ck (s_X13_noiseOf p0 p1 p2))
/-! X13_refusesTurn -/
def f_X13_refusesTurn (p0 : (Option Nat)) (p1 : Int32) (p2 : Int32) : Mo Int32 :=
  mBd (mCk 11 p0 (f_X13_isField p0 p1)) (fun r1 => (if ¬ r1 = 0 then mBd (mGetA 11 3 p0) (fun r2 => mBd (mGetA 9 4 r2) (fun r3 => mBd (mLdA 7 r3 p1) (fun r4 => mBd (mGetI 10 0 r4) (fun r5 => mBd (f_X13_in p2 (0 : Int32) (r5 - (1 : Int32))) (fun r6 => (if r6 = 0 then mRt (2 : Int32) else mRt (0 : Int32))))))) else mRt (1 : Int32)))
set_option maxRecDepth 100000 in
theorem s_X13_refusesTurn {cx : CX} (p0 : (Option Nat)) (p1 : Int32) (p2 : Int32) : Sn cx m_X13_refusesTurn eI 0 [(0, vA p0), (1, vI p1), (2, vI p2)] [] (f_X13_refusesTurn p0 p1 p2) := by
  refine sn_aload_n (y := m_X13_refusesTurn) (pc := 0) dX13_refusesTurn_0 rfl ?_
  refine sn_iload_n (y := m_X13_refusesTurn) (pc := 1) dX13_refusesTurn_1 rfl ?_
  refine sn_invV (y := m_X13_refusesTurn) (pc := 2) ca_11 (av := [vI p1]) (o := p0) (st := []) dX13_refusesTurn_2 lk_X13_381 im_X13_isField se_X13_isField rfl rfl rfl rfl ⟨by decide, by decide⟩ (c_X13_isField cx.1 p0 p1) (fun r1 => ?_)
  refine sn_if_ne (y := m_X13_refusesTurn) (pc := 5) (tgt := 12) dX13_refusesTurn_5 (by decide) (fun _ => ?_) (fun _ => ?_)
  · refine sn_iload_n (y := m_X13_refusesTurn) (pc := 12) dX13_refusesTurn_12 rfl ?_
    refine sn_iconst (y := m_X13_refusesTurn) (pc := 13) dX13_refusesTurn_13 kc_iconst_0 ?_
    refine sn_aload_n (y := m_X13_refusesTurn) (pc := 14) dX13_refusesTurn_14 rfl ?_
    refine sn_getA (y := m_X13_refusesTurn) (pc := 15) ca_11 rfl fk_X13_369 (fun _ _ _ => rfl) dX13_refusesTurn_15 (fun r2 => ?_)
    refine sn_getA (y := m_X13_refusesTurn) (pc := 18) ca_9 rfl fk_X13_259 (fun _ _ _ => rfl) dX13_refusesTurn_18 (fun r3 => ?_)
    refine sn_iload_n (y := m_X13_refusesTurn) (pc := 21) dX13_refusesTurn_21 rfl ?_
    refine sn_aaload (y := m_X13_refusesTurn) (pc := 22) dX13_refusesTurn_22 (fun r4 => ?_)
    refine sn_getI (y := m_X13_refusesTurn) (pc := 23) ca_10 rfl fk_X13_81 (fun _ _ _ => rfl) dX13_refusesTurn_23 (fun r5 => ?_)
    refine sn_iconst (y := m_X13_refusesTurn) (pc := 26) dX13_refusesTurn_26 kc_iconst_1 ?_
    refine sn_isub (y := m_X13_refusesTurn) (pc := 27) dX13_refusesTurn_27 ?_
    refine sn_invS (y := m_X13_refusesTurn) (pc := 28) (av := [vI p2, vI (0 : Int32), vI (r5 - (1 : Int32))]) (st := []) dX13_refusesTurn_28 lk_X13_168 sw_X13_in rfl rfl rfl ⟨by decide, by decide⟩ (c_X13_in cx.1 p2 (0 : Int32) (r5 - (1 : Int32))) (fun r6 => ?_)
    refine sn_if_eq (y := m_X13_refusesTurn) (pc := 31) (tgt := 38) dX13_refusesTurn_31 (by decide) (fun _ => ?_) (fun _ => ?_)
    · refine sn_iconst (y := m_X13_refusesTurn) (pc := 38) dX13_refusesTurn_38 kc_iconst_2 ?_
      exact sn_ireturn rfl dX13_refusesTurn_39
    refine sn_iconst (y := m_X13_refusesTurn) (pc := 34) dX13_refusesTurn_34 kc_iconst_0 ?_
    refine sn_goto (y := m_X13_refusesTurn) (pc := 35) (tgt := 39) dX13_refusesTurn_35 (by decide) ?_
    exact sn_ireturn rfl dX13_refusesTurn_39
  refine sn_iconst (y := m_X13_refusesTurn) (pc := 8) dX13_refusesTurn_8 kc_iconst_1 ?_
  refine sn_goto (y := m_X13_refusesTurn) (pc := 9) (tgt := 39) dX13_refusesTurn_9 (by decide) ?_
  exact sn_ireturn rfl dX13_refusesTurn_39
set_option maxRecDepth 100000 in
theorem c_X13_refusesTurn (g : Gl) (p0 : (Option Nat)) (p1 : Int32) (p2 : Int32) : Cn g m_X13_refusesTurn eI [vA p0, vI p1, vI p2] (mCk 11 p0 (f_X13_refusesTurn p0 p1 p2)) := cn_of_sn (by decide +kernel) rfl (fun r => ⟨r, rfl⟩) rfl (fun _ _ => sn_ck (s_X13_refusesTurn p0 p1 p2))
