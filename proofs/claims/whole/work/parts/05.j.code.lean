/-! X13_echo -/
def f_X13_echo_j43 (x0 : (Option Nat)) (x1 : Int32) (x2 : Int32) (x3 : Int32) (x4 : Int32) : Mo Int32 :=
  (if x4 ≤ 0 then mBd (mGetA 11 3 x0) (fun r2 => mBd (mGetA 9 4 r2) (fun r3 => mBd (mLdA 7 r3 x1) (fun r4 => mBd (mCk 11 x0 (f_X13_rowOf x0 r4 x2)) (fun _ => mBd (mGetA 11 3 x0) (fun r5 => mBd (mGetA 9 4 r5) (fun r6 => mBd (mLdA 7 r6 x1) (fun r7 => mBd (mCk 11 x0 (f_X13_echoOf x0 r7 x3)) (fun r8 => mBd (mCk 11 x0 (f_X13_good x0 r8)) (fun r9 => mRt r9))))))))) else mBd (mCk 11 x0 (f_X13_refusedBy x0 x4 (-1000 : Int32))) (fun r10 => mRt r10))
set_option maxRecDepth 100000 in
theorem s_X13_echo_j43 {cx : CX} (x0 : (Option Nat)) (x1 : Int32) (x2 : Int32) (x3 : Int32) (x4 : Int32) : Sn cx m_X13_echo eI 43 [(0, vA x0), (1, vI x1), (2, vI x2), (3, vI x3), (4, vI x4)] [] (f_X13_echo_j43 x0 x1 x2 x3 x4) := by
  refine sn_iload (y := m_X13_echo) (pc := 43) dX13_echo_43 rfl ?_
  refine sn_if_le (y := m_X13_echo) (pc := 45) (tgt := 58) dX13_echo_45 (by decide) (fun _ => ?_) (fun _ => ?_)
  · refine sn_aload_n (y := m_X13_echo) (pc := 58) dX13_echo_58 rfl ?_
    refine sn_aload_n (y := m_X13_echo) (pc := 59) dX13_echo_59 rfl ?_
    refine sn_getA (y := m_X13_echo) (pc := 60) ca_11 rfl fk_X13_369 (fun _ _ _ => rfl) dX13_echo_60 (fun r2 => ?_)
    refine sn_getA (y := m_X13_echo) (pc := 63) ca_9 rfl fk_X13_259 (fun _ _ _ => rfl) dX13_echo_63 (fun r3 => ?_)
    refine sn_iload_n (y := m_X13_echo) (pc := 66) dX13_echo_66 rfl ?_
    refine sn_aaload (y := m_X13_echo) (pc := 67) dX13_echo_67 (fun r4 => ?_)
    refine sn_iload_n (y := m_X13_echo) (pc := 68) dX13_echo_68 rfl ?_
    refine sn_invV (y := m_X13_echo) (pc := 69) ca_11 (av := [vA r4, vI x2]) (o := x0) (st := []) dX13_echo_69 lk_X13_438 im_X13_rowOf se_X13_rowOf rfl rfl rfl rfl ⟨by decide, by decide⟩ (c_X13_rowOf cx.1 x0 r4 x2) (fun _ => ?_)
    refine sn_aload_n (y := m_X13_echo) (pc := 72) dX13_echo_72 rfl ?_
    refine sn_aload_n (y := m_X13_echo) (pc := 73) dX13_echo_73 rfl ?_
    refine sn_aload_n (y := m_X13_echo) (pc := 74) dX13_echo_74 rfl ?_
    refine sn_getA (y := m_X13_echo) (pc := 75) ca_11 rfl fk_X13_369 (fun _ _ _ => rfl) dX13_echo_75 (fun r5 => ?_)
    refine sn_getA (y := m_X13_echo) (pc := 78) ca_9 rfl fk_X13_259 (fun _ _ _ => rfl) dX13_echo_78 (fun r6 => ?_)
    refine sn_iload_n (y := m_X13_echo) (pc := 81) dX13_echo_81 rfl ?_
    refine sn_aaload (y := m_X13_echo) (pc := 82) dX13_echo_82 (fun r7 => ?_)
    refine sn_iload_n (y := m_X13_echo) (pc := 83) dX13_echo_83 rfl ?_
    refine sn_invV (y := m_X13_echo) (pc := 84) ca_11 (av := [vA r7, vI x3]) (o := x0) (st := [vA x0]) dX13_echo_84 lk_X13_441 im_X13_echoOf se_X13_echoOf rfl rfl rfl rfl ⟨by decide, by decide⟩ (c_X13_echoOf cx.1 x0 r7 x3) (fun r8 => ?_)
    refine sn_invV (y := m_X13_echo) (pc := 87) ca_11 (av := [vI r8]) (o := x0) (st := []) dX13_echo_87 lk_X13_56 im_X13_good se_X13_good rfl rfl rfl rfl ⟨by decide, by decide⟩ (c_X13_good cx.1 x0 r8) (fun r9 => ?_)
    exact sn_ireturn rfl dX13_echo_90
  refine sn_aload_n (y := m_X13_echo) (pc := 48) dX13_echo_48 rfl ?_
  refine sn_iload (y := m_X13_echo) (pc := 49) dX13_echo_49 rfl ?_
  refine sn_sipush (y := m_X13_echo) (pc := 51) dX13_echo_51 kc_sipush_m1000 ?_
  refine sn_invV (y := m_X13_echo) (pc := 54) ca_11 (av := [vI x4, vI (-1000 : Int32)]) (o := x0) (st := []) dX13_echo_54 lk_X13_391 im_X13_refusedBy se_X13_refusedBy rfl rfl rfl rfl ⟨by decide, by decide⟩ (c_X13_refusedBy cx.1 x0 x4 (-1000 : Int32)) (fun r10 => ?_)
  exact sn_ireturn rfl dX13_echo_57
def f_X13_echo (p0 : (Option Nat)) (p1 : Int32) (p2 : Int32) (p3 : Int32) : Mo Int32 :=
  mBd (mPutI 11 0 p0 (0 : Int32)) (fun _ => mBd (mCk 11 p0 (f_X13_refusesTurn p0 p1 p2)) (fun r1 => (if ¬ r1 = 0 then f_X13_echo_j43 p0 p1 p2 p3 r1 else mBd (mGetA 11 3 p0) (fun r11 => mBd (mGetA 9 4 r11) (fun r12 => mBd (mLdA 7 r12 p1) (fun r13 => mBd (mGetI 10 0 r13) (fun r14 => mBd (f_X13_in p3 (0 : Int32) (r14 - (1 : Int32))) (fun r15 => (if ¬ r15 = 0 then f_X13_echo_j43 p0 p1 p2 p3 r1 else f_X13_echo_j43 p0 p1 p2 p3 (2 : Int32))))))))))
set_option maxRecDepth 100000 in
theorem s_X13_echo {cx : CX} (p0 : (Option Nat)) (p1 : Int32) (p2 : Int32) (p3 : Int32) : Sn cx m_X13_echo eI 0 [(0, vA p0), (1, vI p1), (2, vI p2), (3, vI p3)] [] (f_X13_echo p0 p1 p2 p3) := by
  refine sn_aload_n (y := m_X13_echo) (pc := 0) dX13_echo_0 rfl ?_
  refine sn_iconst (y := m_X13_echo) (pc := 1) dX13_echo_1 kc_iconst_0 ?_
  refine sn_putI (y := m_X13_echo) (pc := 2) ca_11 rfl fk_X13_46 (Or.inl rfl) rfl dX13_echo_2 ?_
  refine sn_aload_n (y := m_X13_echo) (pc := 5) dX13_echo_5 rfl ?_
  refine sn_iload_n (y := m_X13_echo) (pc := 6) dX13_echo_6 rfl ?_
  refine sn_iload_n (y := m_X13_echo) (pc := 7) dX13_echo_7 rfl ?_
  refine sn_invV (y := m_X13_echo) (pc := 8) ca_11 (av := [vI p1, vI p2]) (o := p0) (st := []) dX13_echo_8 lk_X13_444 im_X13_refusesTurn se_X13_refusesTurn rfl rfl rfl rfl ⟨by decide, by decide⟩ (c_X13_refusesTurn cx.1 p0 p1 p2) (fun r1 => ?_)
  refine sn_istore (y := m_X13_echo) (pc := 11) dX13_echo_11 rfl ?_
  refine sn_iload (y := m_X13_echo) (pc := 13) dX13_echo_13 rfl ?_
  refine sn_if_ne (y := m_X13_echo) (pc := 15) (tgt := 43) dX13_echo_15 (by decide) (fun _ => ?_) (fun _ => ?_)
  · exact sn_sub rfl (s_X13_echo_j43 p0 p1 p2 p3 r1)
  refine sn_iload_n (y := m_X13_echo) (pc := 18) dX13_echo_18 rfl ?_
  refine sn_iconst (y := m_X13_echo) (pc := 19) dX13_echo_19 kc_iconst_0 ?_
  refine sn_aload_n (y := m_X13_echo) (pc := 20) dX13_echo_20 rfl ?_
  refine sn_getA (y := m_X13_echo) (pc := 21) ca_11 rfl fk_X13_369 (fun _ _ _ => rfl) dX13_echo_21 (fun r11 => ?_)
  refine sn_getA (y := m_X13_echo) (pc := 24) ca_9 rfl fk_X13_259 (fun _ _ _ => rfl) dX13_echo_24 (fun r12 => ?_)
  refine sn_iload_n (y := m_X13_echo) (pc := 27) dX13_echo_27 rfl ?_
  refine sn_aaload (y := m_X13_echo) (pc := 28) dX13_echo_28 (fun r13 => ?_)
  refine sn_getI (y := m_X13_echo) (pc := 29) ca_10 rfl fk_X13_81 (fun _ _ _ => rfl) dX13_echo_29 (fun r14 => ?_)
  refine sn_iconst (y := m_X13_echo) (pc := 32) dX13_echo_32 kc_iconst_1 ?_
  refine sn_isub (y := m_X13_echo) (pc := 33) dX13_echo_33 ?_
  refine sn_invS (y := m_X13_echo) (pc := 34) (av := [vI p3, vI (0 : Int32), vI (r14 - (1 : Int32))]) (st := []) dX13_echo_34 lk_X13_168 sw_X13_in rfl rfl rfl ⟨by decide, by decide⟩ (c_X13_in cx.1 p3 (0 : Int32) (r14 - (1 : Int32))) (fun r15 => ?_)
  refine sn_if_ne (y := m_X13_echo) (pc := 37) (tgt := 43) dX13_echo_37 (by decide) (fun _ => ?_) (fun _ => ?_)
  · exact sn_sub rfl (s_X13_echo_j43 p0 p1 p2 p3 r1)
  refine sn_iconst (y := m_X13_echo) (pc := 40) dX13_echo_40 kc_iconst_2 ?_
  refine sn_istore (y := m_X13_echo) (pc := 41) dX13_echo_41 rfl ?_
  exact sn_sub rfl (s_X13_echo_j43 p0 p1 p2 p3 (2 : Int32))
set_option maxRecDepth 100000 in
theorem c_X13_echo (g : Gl) (p0 : (Option Nat)) (p1 : Int32) (p2 : Int32) (p3 : Int32) : Cn g m_X13_echo eI [vA p0, vI p1, vI p2, vI p3] (mCk 11 p0 (f_X13_echo p0 p1 p2 p3)) := cn_of_sn (by decide +kernel) rfl (fun r => ⟨r, rfl⟩) rfl (fun _ _ => sn_ck (s_X13_echo p0 p1 p2 p3))
/-! X13_noise -/
def f_X13_noise (p0 : (Option Nat)) (p1 : Int32) (p2 : Int32) : Mo Int64 :=
  mBd (mPutI 11 0 p0 (0 : Int32)) (fun _ => mBd (mCk 11 p0 (f_X13_refusesTurn p0 p1 p2)) (fun r1 => (if r1 ≤ 0 then mBd (mGetA 11 3 p0) (fun r2 => mBd (mGetA 9 4 r2) (fun r3 => mBd (mLdA 7 r3 p1) (fun r4 => mBd (mCk 11 p0 (f_X13_noiseOf p0 r4 p2)) (fun r5 => mBd (mCk 11 p0 (f_X13_goodLong p0 r5)) (fun r6 => mRt r6))))) else mBd (mCk 11 p0 (f_X13_refused p0 r1)) (fun r7 => mRt (r7.toInt64)))))
set_option maxRecDepth 100000 in
theorem s_X13_noise {cx : CX} (p0 : (Option Nat)) (p1 : Int32) (p2 : Int32) : Sn cx m_X13_noise eJ 0 [(0, vA p0), (1, vI p1), (2, vI p2)] [] (f_X13_noise p0 p1 p2) := by
  refine sn_aload_n (y := m_X13_noise) (pc := 0) dX13_noise_0 rfl ?_
  refine sn_iconst (y := m_X13_noise) (pc := 1) dX13_noise_1 kc_iconst_0 ?_
  refine sn_putI (y := m_X13_noise) (pc := 2) ca_11 rfl fk_X13_46 (Or.inl rfl) rfl dX13_noise_2 ?_
  refine sn_aload_n (y := m_X13_noise) (pc := 5) dX13_noise_5 rfl ?_
  refine sn_iload_n (y := m_X13_noise) (pc := 6) dX13_noise_6 rfl ?_
  refine sn_iload_n (y := m_X13_noise) (pc := 7) dX13_noise_7 rfl ?_
  refine sn_invV (y := m_X13_noise) (pc := 8) ca_11 (av := [vI p1, vI p2]) (o := p0) (st := []) dX13_noise_8 lk_X13_444 im_X13_refusesTurn se_X13_refusesTurn rfl rfl rfl rfl ⟨by decide, by decide⟩ (c_X13_refusesTurn cx.1 p0 p1 p2) (fun r1 => ?_)
  refine sn_istore_n (y := m_X13_noise) (pc := 11) dX13_noise_11 rfl ?_
  refine sn_iload_n (y := m_X13_noise) (pc := 12) dX13_noise_12 rfl ?_
  refine sn_if_le (y := m_X13_noise) (pc := 13) (tgt := 25) dX13_noise_13 (by decide) (fun _ => ?_) (fun _ => ?_)
  · refine sn_aload_n (y := m_X13_noise) (pc := 25) dX13_noise_25 rfl ?_
    refine sn_aload_n (y := m_X13_noise) (pc := 26) dX13_noise_26 rfl ?_
    refine sn_aload_n (y := m_X13_noise) (pc := 27) dX13_noise_27 rfl ?_
    refine sn_getA (y := m_X13_noise) (pc := 28) ca_11 rfl fk_X13_369 (fun _ _ _ => rfl) dX13_noise_28 (fun r2 => ?_)
    refine sn_getA (y := m_X13_noise) (pc := 31) ca_9 rfl fk_X13_259 (fun _ _ _ => rfl) dX13_noise_31 (fun r3 => ?_)
    refine sn_iload_n (y := m_X13_noise) (pc := 34) dX13_noise_34 rfl ?_
    refine sn_aaload (y := m_X13_noise) (pc := 35) dX13_noise_35 (fun r4 => ?_)
    refine sn_iload_n (y := m_X13_noise) (pc := 36) dX13_noise_36 rfl ?_
    refine sn_invV (y := m_X13_noise) (pc := 37) ca_11 (av := [vA r4, vI p2]) (o := p0) (st := [vA p0]) dX13_noise_37 lk_X13_447 im_X13_noiseOf se_X13_noiseOf rfl rfl rfl rfl ⟨by decide, by decide⟩ (c_X13_noiseOf cx.1 p0 r4 p2) (fun r5 => ?_)
    refine sn_invV (y := m_X13_noise) (pc := 40) ca_11 (av := [vJ r5]) (o := p0) (st := []) dX13_noise_40 lk_X13_422 im_X13_goodLong se_X13_goodLong rfl rfl rfl rfl ⟨by decide, by decide⟩ (c_X13_goodLong cx.1 p0 r5) (fun r6 => ?_)
    exact sn_lreturn rfl dX13_noise_43
  refine sn_aload_n (y := m_X13_noise) (pc := 16) dX13_noise_16 rfl ?_
  refine sn_iload_n (y := m_X13_noise) (pc := 17) dX13_noise_17 rfl ?_
  refine sn_invV (y := m_X13_noise) (pc := 18) ca_11 (av := [vI r1]) (o := p0) (st := []) dX13_noise_18 lk_X13_52 im_X13_refused se_X13_refused rfl rfl rfl rfl ⟨by decide, by decide⟩ (c_X13_refused cx.1 p0 r1) (fun r7 => ?_)
  refine sn_i2l (y := m_X13_noise) (pc := 21) dX13_noise_21 ?_
  refine sn_goto (y := m_X13_noise) (pc := 22) (tgt := 43) dX13_noise_22 (by decide) ?_
  exact sn_lreturn rfl dX13_noise_43
set_option maxRecDepth 100000 in
theorem c_X13_noise (g : Gl) (p0 : (Option Nat)) (p1 : Int32) (p2 : Int32) : Cn g m_X13_noise eJ [vA p0, vI p1, vI p2] (mCk 11 p0 (f_X13_noise p0 p1 p2)) := cn_of_sn (by decide +kernel) rfl (fun r => ⟨r, rfl⟩) rfl (fun _ _ => sn_ck (s_X13_noise p0 p1 p2))
/-! X13_lowest -/
def f_X13_lowest_b39 (x0 : (Option Nat)) (x1 : Int32) (k39 : Int32 → Int64 → Int32 → Mo Int32) (x2 : Int32) (x3 : Int64) (x5 : Int32) : Mo Int32 :=
  mBd (mGetA 11 3 x0) (fun r6 => mBd (mGetA 9 4 r6) (fun r7 => mBd (mLdA 7 r7 x1) (fun r8 => mBd (mGetI 10 0 r8) (fun r9 => (if x5 ≥ r9 then mBd (mCk 11 x0 (f_X13_good x0 x2)) (fun r10 => mRt r10) else mBd (mGetA 11 3 x0) (fun r11 => mBd (mGetA 9 4 r11) (fun r12 => mBd (mLdA 7 r12 x1) (fun r13 => mBd (mCk 11 x0 (f_X13_noiseOf x0 r13 x5)) (fun r14 => (if r14 < x3 then k39 x5 r14 (x5 + 1) else k39 x2 x3 (x5 + 1)))))))))))
def f_X13_lowest_l39 (x0 : (Option Nat)) (x1 : Int32) : Int32 → Int64 → Int32 → Mo Int32 := lq3 (f_X13_lowest_b39 x0 x1) fuel
set_option maxRecDepth 100000 in
theorem s_X13_lowest_b39 {cx : CX} (x0 : (Option Nat)) (x1 : Int32) {k39 : Int32 → Int64 → Int32 → Mo Int32} (hk39 : ∀ (z2 : Int32) (z3 : Int64) (z5 : Int32), Sn cx m_X13_lowest eI 39 [(2, vI z2), (3, vJ z3), (5, vI z5), (0, vA x0), (1, vI x1)] [] (k39 z2 z3 z5)) (x2 : Int32) (x3 : Int64) (x5 : Int32) : Sn cx m_X13_lowest eI 39 [(2, vI x2), (3, vJ x3), (5, vI x5), (0, vA x0), (1, vI x1)] [] (f_X13_lowest_b39 x0 x1 k39 x2 x3 x5) := by
  refine sn_iload (y := m_X13_lowest) (pc := 39) dX13_lowest_39 rfl ?_
  refine sn_aload_n (y := m_X13_lowest) (pc := 41) dX13_lowest_41 rfl ?_
  refine sn_getA (y := m_X13_lowest) (pc := 42) ca_11 rfl fk_X13_369 (fun _ _ _ => rfl) dX13_lowest_42 (fun r6 => ?_)
  refine sn_getA (y := m_X13_lowest) (pc := 45) ca_9 rfl fk_X13_259 (fun _ _ _ => rfl) dX13_lowest_45 (fun r7 => ?_)
  refine sn_iload_n (y := m_X13_lowest) (pc := 48) dX13_lowest_48 rfl ?_
  refine sn_aaload (y := m_X13_lowest) (pc := 49) dX13_lowest_49 (fun r8 => ?_)
  refine sn_getI (y := m_X13_lowest) (pc := 50) ca_10 rfl fk_X13_81 (fun _ _ _ => rfl) dX13_lowest_50 (fun r9 => ?_)
  refine sn_icmp_ge (y := m_X13_lowest) (pc := 53) (tgt := 95) dX13_lowest_53 (by decide) (fun _ => ?_) (fun _ => ?_)
  · refine sn_aload_n (y := m_X13_lowest) (pc := 95) dX13_lowest_95 rfl ?_
    refine sn_iload_n (y := m_X13_lowest) (pc := 96) dX13_lowest_96 rfl ?_
    refine sn_invV (y := m_X13_lowest) (pc := 97) ca_11 (av := [vI x2]) (o := x0) (st := []) dX13_lowest_97 lk_X13_56 im_X13_good se_X13_good rfl rfl rfl rfl ⟨by decide, by decide⟩ (c_X13_good cx.1 x0 x2) (fun r10 => ?_)
    exact sn_ireturn rfl dX13_lowest_100
  refine sn_aload_n (y := m_X13_lowest) (pc := 56) dX13_lowest_56 rfl ?_
  refine sn_aload_n (y := m_X13_lowest) (pc := 57) dX13_lowest_57 rfl ?_
  refine sn_getA (y := m_X13_lowest) (pc := 58) ca_11 rfl fk_X13_369 (fun _ _ _ => rfl) dX13_lowest_58 (fun r11 => ?_)
  refine sn_getA (y := m_X13_lowest) (pc := 61) ca_9 rfl fk_X13_259 (fun _ _ _ => rfl) dX13_lowest_61 (fun r12 => ?_)
  refine sn_iload_n (y := m_X13_lowest) (pc := 64) dX13_lowest_64 rfl ?_
  refine sn_aaload (y := m_X13_lowest) (pc := 65) dX13_lowest_65 (fun r13 => ?_)
  refine sn_iload (y := m_X13_lowest) (pc := 66) dX13_lowest_66 rfl ?_
  refine sn_invV (y := m_X13_lowest) (pc := 68) ca_11 (av := [vA r13, vI x5]) (o := x0) (st := []) dX13_lowest_68 lk_X13_447 im_X13_noiseOf se_X13_noiseOf rfl rfl rfl rfl ⟨by decide, by decide⟩ (c_X13_noiseOf cx.1 x0 r13 x5) (fun r14 => ?_)
  refine sn_lstore (y := m_X13_lowest) (pc := 71) dX13_lowest_71 rfl ?_
  refine sn_lload (y := m_X13_lowest) (pc := 73) dX13_lowest_73 rfl ?_
  refine sn_lload_n (y := m_X13_lowest) (pc := 75) dX13_lowest_75 rfl ?_
  refine sn_lc_lt (y := m_X13_lowest) (pc := 76) (tgt := 83) dX13_lowest_76 dX13_lowest_77 (by decide) (fun _ => ?_) (fun _ => ?_)
  · refine sn_lload (y := m_X13_lowest) (pc := 83) dX13_lowest_83 rfl ?_
    refine sn_lstore_n (y := m_X13_lowest) (pc := 85) dX13_lowest_85 rfl ?_
    refine sn_iload (y := m_X13_lowest) (pc := 86) dX13_lowest_86 rfl ?_
    refine sn_istore_n (y := m_X13_lowest) (pc := 88) dX13_lowest_88 rfl ?_
    refine sn_iinc (y := m_X13_lowest) (pc := 89) (v := x5 + 1) dX13_lowest_89 rfl (by rfl) rfl ?_
    refine sn_goto (y := m_X13_lowest) (pc := 92) (tgt := 39) dX13_lowest_92 (by decide) ?_
    exact sn_sub rfl (hk39 x5 r14 (x5 + 1))
  refine sn_goto (y := m_X13_lowest) (pc := 80) (tgt := 89) dX13_lowest_80 (by decide) ?_
  refine sn_iinc (y := m_X13_lowest) (pc := 89) (v := x5 + 1) dX13_lowest_89 rfl (by rfl) rfl ?_
  refine sn_goto (y := m_X13_lowest) (pc := 92) (tgt := 39) dX13_lowest_92 (by decide) ?_
  exact sn_sub rfl (hk39 x2 x3 (x5 + 1))
set_option maxRecDepth 100000 in
theorem s_X13_lowest_l39 {cx : CX} (x0 : (Option Nat)) (x1 : Int32) (x2 : Int32) (x3 : Int64) (x5 : Int32) : Sn cx m_X13_lowest eI 39 [(2, vI x2), (3, vJ x3), (5, vI x5), (0, vA x0), (1, vI x1)] [] (f_X13_lowest_l39 x0 x1 x2 x3 x5) :=
  sn_lq3 (L := fun x2 x3 x5 => [(2, vI x2), (3, vJ x3), (5, vI x5), (0, vA x0), (1, vI x1)]) (fun k hk x2 x3 x5 => s_X13_lowest_b39 x0 x1 hk x2 x3 x5) fuel x2 x3 x5
def f_X13_lowest (p0 : (Option Nat)) (p1 : Int32) : Mo Int32 :=
  mBd (mPutI 11 0 p0 (0 : Int32)) (fun _ => mBd (mCk 11 p0 (f_X13_isField p0 p1)) (fun r1 => (if ¬ r1 = 0 then mBd (mGetA 11 3 p0) (fun r2 => mBd (mGetA 9 4 r2) (fun r3 => mBd (mLdA 7 r3 p1) (fun r4 => mBd (mCk 11 p0 (f_X13_noiseOf p0 r4 (0 : Int32))) (fun r5 => f_X13_lowest_l39 p0 p1 (0 : Int32) r5 (1 : Int32))))) else mBd (mCk 11 p0 (f_X13_refused p0 (1 : Int32))) (fun r15 => mRt r15))))
set_option maxRecDepth 100000 in
theorem s_X13_lowest {cx : CX} (p0 : (Option Nat)) (p1 : Int32) : Sn cx m_X13_lowest eI 0 [(0, vA p0), (1, vI p1)] [] (f_X13_lowest p0 p1) := by
  refine sn_aload_n (y := m_X13_lowest) (pc := 0) dX13_lowest_0 rfl ?_
  refine sn_iconst (y := m_X13_lowest) (pc := 1) dX13_lowest_1 kc_iconst_0 ?_
  refine sn_putI (y := m_X13_lowest) (pc := 2) ca_11 rfl fk_X13_46 (Or.inl rfl) rfl dX13_lowest_2 ?_
  refine sn_aload_n (y := m_X13_lowest) (pc := 5) dX13_lowest_5 rfl ?_
  refine sn_iload_n (y := m_X13_lowest) (pc := 6) dX13_lowest_6 rfl ?_
  refine sn_invV (y := m_X13_lowest) (pc := 7) ca_11 (av := [vI p1]) (o := p0) (st := []) dX13_lowest_7 lk_X13_381 im_X13_isField se_X13_isField rfl rfl rfl rfl ⟨by decide, by decide⟩ (c_X13_isField cx.1 p0 p1) (fun r1 => ?_)
  refine sn_if_ne (y := m_X13_lowest) (pc := 10) (tgt := 19) dX13_lowest_10 (by decide) (fun _ => ?_) (fun _ => ?_)
  · refine sn_iconst (y := m_X13_lowest) (pc := 19) dX13_lowest_19 kc_iconst_0 ?_
    refine sn_istore_n (y := m_X13_lowest) (pc := 20) dX13_lowest_20 rfl ?_
    refine sn_aload_n (y := m_X13_lowest) (pc := 21) dX13_lowest_21 rfl ?_
    refine sn_aload_n (y := m_X13_lowest) (pc := 22) dX13_lowest_22 rfl ?_
    refine sn_getA (y := m_X13_lowest) (pc := 23) ca_11 rfl fk_X13_369 (fun _ _ _ => rfl) dX13_lowest_23 (fun r2 => ?_)
    refine sn_getA (y := m_X13_lowest) (pc := 26) ca_9 rfl fk_X13_259 (fun _ _ _ => rfl) dX13_lowest_26 (fun r3 => ?_)
    refine sn_iload_n (y := m_X13_lowest) (pc := 29) dX13_lowest_29 rfl ?_
    refine sn_aaload (y := m_X13_lowest) (pc := 30) dX13_lowest_30 (fun r4 => ?_)
    refine sn_iconst (y := m_X13_lowest) (pc := 31) dX13_lowest_31 kc_iconst_0 ?_
    refine sn_invV (y := m_X13_lowest) (pc := 32) ca_11 (av := [vA r4, vI (0 : Int32)]) (o := p0) (st := []) dX13_lowest_32 lk_X13_447 im_X13_noiseOf se_X13_noiseOf rfl rfl rfl rfl ⟨by decide, by decide⟩ (c_X13_noiseOf cx.1 p0 r4 (0 : Int32)) (fun r5 => ?_)
    refine sn_lstore_n (y := m_X13_lowest) (pc := 35) dX13_lowest_35 rfl ?_
    refine sn_iconst (y := m_X13_lowest) (pc := 36) dX13_lowest_36 kc_iconst_1 ?_
    refine sn_istore (y := m_X13_lowest) (pc := 37) dX13_lowest_37 rfl ?_
    exact sn_sub rfl (s_X13_lowest_l39 p0 p1 (0 : Int32) r5 (1 : Int32))
  refine sn_aload_n (y := m_X13_lowest) (pc := 13) dX13_lowest_13 rfl ?_
  refine sn_iconst (y := m_X13_lowest) (pc := 14) dX13_lowest_14 kc_iconst_1 ?_
  refine sn_invV (y := m_X13_lowest) (pc := 15) ca_11 (av := [vI (1 : Int32)]) (o := p0) (st := []) dX13_lowest_15 lk_X13_52 im_X13_refused se_X13_refused rfl rfl rfl rfl ⟨by decide, by decide⟩ (c_X13_refused cx.1 p0 (1 : Int32)) (fun r15 => ?_)
  exact sn_ireturn rfl dX13_lowest_18
set_option maxRecDepth 100000 in
theorem c_X13_lowest (g : Gl) (p0 : (Option Nat)) (p1 : Int32) : Cn g m_X13_lowest eI [vA p0, vI p1] (mCk 11 p0 (f_X13_lowest p0 p1)) := cn_of_sn (by decide +kernel) rfl (fun r => ⟨r, rfl⟩) rfl (fun _ _ => sn_ck (s_X13_lowest p0 p1))
/-! X13_keeps -/
def f_X13_keeps_b2 (x0 : (Option Nat)) (x1 : (Option Nat)) (x2 : Int32) (k2 : Int32 → Mo Unit) (x3 : Int32) : Mo Unit :=
  (if x3 ≥ (49 : Int32) then mRt () else mBd (mGetA 11 24 x0) (fun r1 => mBd (mLdJ r1 x3) (fun r2 => mBd (mStJ x1 (((49 : Int32) * x2) + x3) r2) (fun _ => k2 (x3 + 1)))))
def f_X13_keeps_l2 (x0 : (Option Nat)) (x1 : (Option Nat)) (x2 : Int32) : Int32 → Mo Unit := lq1 (f_X13_keeps_b2 x0 x1 x2) fuel
set_option maxRecDepth 100000 in
theorem s_X13_keeps_b2 {cx : CX} (x0 : (Option Nat)) (x1 : (Option Nat)) (x2 : Int32) {k2 : Int32 → Mo Unit} (hk2 : ∀ (z3 : Int32), Sn cx m_X13_keeps eV 2 [(3, vI z3), (0, vA x0), (1, vA x1), (2, vI x2)] [] (k2 z3)) (x3 : Int32) : Sn cx m_X13_keeps eV 2 [(3, vI x3), (0, vA x0), (1, vA x1), (2, vI x2)] [] (f_X13_keeps_b2 x0 x1 x2 k2 x3) := by
  refine sn_iload_n (y := m_X13_keeps) (pc := 2) dX13_keeps_2 rfl ?_
  refine sn_bipush (y := m_X13_keeps) (pc := 3) dX13_keeps_3 kc_bipush_49 ?_
  refine sn_icmp_ge (y := m_X13_keeps) (pc := 5) (tgt := 28) dX13_keeps_5 (by decide) (fun _ => ?_) (fun _ => ?_)
  · exact sn_return rfl dX13_keeps_28
  refine sn_aload_n (y := m_X13_keeps) (pc := 8) dX13_keeps_8 rfl ?_
  refine sn_bipush (y := m_X13_keeps) (pc := 9) dX13_keeps_9 kc_bipush_49 ?_
  refine sn_iload_n (y := m_X13_keeps) (pc := 11) dX13_keeps_11 rfl ?_
  refine sn_imul (y := m_X13_keeps) (pc := 12) dX13_keeps_12 ?_
  refine sn_iload_n (y := m_X13_keeps) (pc := 13) dX13_keeps_13 rfl ?_
  refine sn_iadd (y := m_X13_keeps) (pc := 14) dX13_keeps_14 ?_
  refine sn_aload_n (y := m_X13_keeps) (pc := 15) dX13_keeps_15 rfl ?_
  refine sn_getA (y := m_X13_keeps) (pc := 16) ca_11 rfl fk_X13_34 (fun _ _ _ => rfl) dX13_keeps_16 (fun r1 => ?_)
  refine sn_iload_n (y := m_X13_keeps) (pc := 19) dX13_keeps_19 rfl ?_
  refine sn_laload (y := m_X13_keeps) (pc := 20) dX13_keeps_20 (fun r2 => ?_)
  refine sn_lastore (y := m_X13_keeps) (pc := 21) dX13_keeps_21 ?_
  refine sn_iinc (y := m_X13_keeps) (pc := 22) (v := x3 + 1) dX13_keeps_22 rfl (by rfl) rfl ?_
  refine sn_goto (y := m_X13_keeps) (pc := 25) (tgt := 2) dX13_keeps_25 (by decide) ?_
  exact sn_sub rfl (hk2 (x3 + 1))
set_option maxRecDepth 100000 in
theorem s_X13_keeps_l2 {cx : CX} (x0 : (Option Nat)) (x1 : (Option Nat)) (x2 : Int32) (x3 : Int32) : Sn cx m_X13_keeps eV 2 [(3, vI x3), (0, vA x0), (1, vA x1), (2, vI x2)] [] (f_X13_keeps_l2 x0 x1 x2 x3) :=
  sn_lq1 (L := fun x3 => [(3, vI x3), (0, vA x0), (1, vA x1), (2, vI x2)]) (fun k hk x3 => s_X13_keeps_b2 x0 x1 x2 hk x3) fuel x3
def f_X13_keeps (p0 : (Option Nat)) (p1 : (Option Nat)) (p2 : Int32) : Mo Unit :=
  f_X13_keeps_l2 p0 p1 p2 (0 : Int32)
set_option maxRecDepth 100000 in
theorem s_X13_keeps {cx : CX} (p0 : (Option Nat)) (p1 : (Option Nat)) (p2 : Int32) : Sn cx m_X13_keeps eV 0 [(0, vA p0), (1, vA p1), (2, vI p2)] [] (f_X13_keeps p0 p1 p2) := by
  refine sn_iconst (y := m_X13_keeps) (pc := 0) dX13_keeps_0 kc_iconst_0 ?_
  refine sn_istore_n (y := m_X13_keeps) (pc := 1) dX13_keeps_1 rfl ?_
  exact sn_sub rfl (s_X13_keeps_l2 p0 p1 p2 (0 : Int32))
set_option maxRecDepth 100000 in
theorem c_X13_keeps (g : Gl) (p0 : (Option Nat)) (p1 : (Option Nat)) (p2 : Int32) : Cn g m_X13_keeps eV [vA p0, vA p1, vI p2] (mCk 11 p0 (f_X13_keeps p0 p1 p2)) := cn_of_sn (by decide +kernel) rfl (fun _ => rfl) rfl (fun _ _ => sn_ck (s_X13_keeps p0 p1 p2))
/-! X13_takes -/
def f_X13_takes_b2 (x0 : (Option Nat)) (x1 : (Option Nat)) (x2 : Int32) (k2 : Int32 → Mo Unit) (x3 : Int32) : Mo Unit :=
  (if x3 ≥ (49 : Int32) then mRt () else mBd (mGetA 11 24 x0) (fun r1 => mBd (mLdJ x1 (((49 : Int32) * x2) + x3)) (fun r2 => mBd (mStJ r1 x3 r2) (fun _ => k2 (x3 + 1)))))
def f_X13_takes_l2 (x0 : (Option Nat)) (x1 : (Option Nat)) (x2 : Int32) : Int32 → Mo Unit := lq1 (f_X13_takes_b2 x0 x1 x2) fuel
set_option maxRecDepth 100000 in
theorem s_X13_takes_b2 {cx : CX} (x0 : (Option Nat)) (x1 : (Option Nat)) (x2 : Int32) {k2 : Int32 → Mo Unit} (hk2 : ∀ (z3 : Int32), Sn cx m_X13_takes eV 2 [(3, vI z3), (0, vA x0), (1, vA x1), (2, vI x2)] [] (k2 z3)) (x3 : Int32) : Sn cx m_X13_takes eV 2 [(3, vI x3), (0, vA x0), (1, vA x1), (2, vI x2)] [] (f_X13_takes_b2 x0 x1 x2 k2 x3) := by
  refine sn_iload_n (y := m_X13_takes) (pc := 2) dX13_takes_2 rfl ?_
  refine sn_bipush (y := m_X13_takes) (pc := 3) dX13_takes_3 kc_bipush_49 ?_
  refine sn_icmp_ge (y := m_X13_takes) (pc := 5) (tgt := 28) dX13_takes_5 (by decide) (fun _ => ?_) (fun _ => ?_)
  · exact sn_return rfl dX13_takes_28
  refine sn_aload_n (y := m_X13_takes) (pc := 8) dX13_takes_8 rfl ?_
  refine sn_getA (y := m_X13_takes) (pc := 9) ca_11 rfl fk_X13_34 (fun _ _ _ => rfl) dX13_takes_9 (fun r1 => ?_)
  refine sn_iload_n (y := m_X13_takes) (pc := 12) dX13_takes_12 rfl ?_
  refine sn_aload_n (y := m_X13_takes) (pc := 13) dX13_takes_13 rfl ?_
  refine sn_bipush (y := m_X13_takes) (pc := 14) dX13_takes_14 kc_bipush_49 ?_
  refine sn_iload_n (y := m_X13_takes) (pc := 16) dX13_takes_16 rfl ?_
  refine sn_imul (y := m_X13_takes) (pc := 17) dX13_takes_17 ?_
  refine sn_iload_n (y := m_X13_takes) (pc := 18) dX13_takes_18 rfl ?_
  refine sn_iadd (y := m_X13_takes) (pc := 19) dX13_takes_19 ?_
  refine sn_laload (y := m_X13_takes) (pc := 20) dX13_takes_20 (fun r2 => ?_)
  refine sn_lastore (y := m_X13_takes) (pc := 21) dX13_takes_21 ?_
  refine sn_iinc (y := m_X13_takes) (pc := 22) (v := x3 + 1) dX13_takes_22 rfl (by rfl) rfl ?_
  refine sn_goto (y := m_X13_takes) (pc := 25) (tgt := 2) dX13_takes_25 (by decide) ?_
  exact sn_sub rfl (hk2 (x3 + 1))
set_option maxRecDepth 100000 in
theorem s_X13_takes_l2 {cx : CX} (x0 : (Option Nat)) (x1 : (Option Nat)) (x2 : Int32) (x3 : Int32) : Sn cx m_X13_takes eV 2 [(3, vI x3), (0, vA x0), (1, vA x1), (2, vI x2)] [] (f_X13_takes_l2 x0 x1 x2 x3) :=
  sn_lq1 (L := fun x3 => [(3, vI x3), (0, vA x0), (1, vA x1), (2, vI x2)]) (fun k hk x3 => s_X13_takes_b2 x0 x1 x2 hk x3) fuel x3
def f_X13_takes (p0 : (Option Nat)) (p1 : (Option Nat)) (p2 : Int32) : Mo Unit :=
  f_X13_takes_l2 p0 p1 p2 (0 : Int32)
set_option maxRecDepth 100000 in
theorem s_X13_takes {cx : CX} (p0 : (Option Nat)) (p1 : (Option Nat)) (p2 : Int32) : Sn cx m_X13_takes eV 0 [(0, vA p0), (1, vA p1), (2, vI p2)] [] (f_X13_takes p0 p1 p2) := by
  refine sn_iconst (y := m_X13_takes) (pc := 0) dX13_takes_0 kc_iconst_0 ?_
  refine sn_istore_n (y := m_X13_takes) (pc := 1) dX13_takes_1 rfl ?_
  exact sn_sub rfl (s_X13_takes_l2 p0 p1 p2 (0 : Int32))
set_option maxRecDepth 100000 in
theorem c_X13_takes (g : Gl) (p0 : (Option Nat)) (p1 : (Option Nat)) (p2 : Int32) : Cn g m_X13_takes eV [vA p0, vA p1, vI p2] (mCk 11 p0 (f_X13_takes p0 p1 p2)) := cn_of_sn (by decide +kernel) rfl (fun _ => rfl) rfl (fun _ _ => sn_ck (s_X13_takes p0 p1 p2))
/-! X13_acts -/
def f_X13_acts_j49 (x0 : (Option Nat)) : Mo Int32 :=
  mBd (mGetA 11 25 x0) (fun r2 => mBd (mGetI 11 28 x0) (fun r3 => mBd (mCk 11 x0 (f_X13_keeps x0 r2 r3)) (fun _ => mBd (mGetI 11 28 x0) (fun r4 => mBd (mPutI 11 28 x0 (r4 + (1 : Int32))) (fun _ => mBd (mPutI 11 29 x0 (0 : Int32)) (fun _ => mBd (mCk 11 x0 (f_X13_granted x0)) (fun r5 => mRq (r5 = 0 ∨ r5 = 1) (mRt r5))))))))
set_option maxRecDepth 100000 in
theorem s_X13_acts_j49 {cx : CX} (x0 : (Option Nat)) : Sn cx m_X13_acts eI 49 [(0, vA x0)] [] (f_X13_acts_j49 x0) := by
  refine sn_aload_n (y := m_X13_acts) (pc := 49) dX13_acts_49 rfl ?_
  refine sn_aload_n (y := m_X13_acts) (pc := 50) dX13_acts_50 rfl ?_
  refine sn_getA (y := m_X13_acts) (pc := 51) ca_11 rfl fk_X13_37 (fun _ _ _ => rfl) dX13_acts_51 (fun r2 => ?_)
  refine sn_aload_n (y := m_X13_acts) (pc := 54) dX13_acts_54 rfl ?_
  refine sn_getI (y := m_X13_acts) (pc := 55) ca_11 rfl fk_X13_372 (fun _ _ _ => rfl) dX13_acts_55 (fun r3 => ?_)
  refine sn_invV (y := m_X13_acts) (pc := 58) ca_11 (av := [vA r2, vI r3]) (o := x0) (st := []) dX13_acts_58 lk_X13_451 im_X13_keeps se_X13_keeps rfl rfl rfl rfl ⟨by decide, by decide⟩ (c_X13_keeps cx.1 x0 r2 r3) (fun _ => ?_)
  refine sn_aload_n (y := m_X13_acts) (pc := 61) dX13_acts_61 rfl ?_
  refine sn_dup (y := m_X13_acts) (pc := 62) rfl dX13_acts_62 ?_
  refine sn_getI (y := m_X13_acts) (pc := 63) ca_11 rfl fk_X13_372 (fun _ _ _ => rfl) dX13_acts_63 (fun r4 => ?_)
  refine sn_iconst (y := m_X13_acts) (pc := 66) dX13_acts_66 kc_iconst_1 ?_
  refine sn_iadd (y := m_X13_acts) (pc := 67) dX13_acts_67 ?_
  refine sn_putI (y := m_X13_acts) (pc := 68) ca_11 rfl fk_X13_372 (Or.inl rfl) rfl dX13_acts_68 ?_
  refine sn_aload_n (y := m_X13_acts) (pc := 71) dX13_acts_71 rfl ?_
  refine sn_iconst (y := m_X13_acts) (pc := 72) dX13_acts_72 kc_iconst_0 ?_
  refine sn_putI (y := m_X13_acts) (pc := 73) ca_11 rfl fk_X13_375 (Or.inl rfl) rfl dX13_acts_73 ?_
  refine sn_aload_n (y := m_X13_acts) (pc := 76) dX13_acts_76 rfl ?_
  refine sn_invV (y := m_X13_acts) (pc := 77) ca_11 (av := []) (o := x0) (st := []) dX13_acts_77 lk_X13_455 im_X13_granted se_X13_granted rfl rfl rfl rfl ⟨by decide, by decide⟩ (c_X13_granted cx.1 x0) (fun r5 => ?_)
  exact sn_zreturn rfl dX13_acts_80
def f_X13_acts_b11 (x0 : (Option Nat)) (k11 : Int32 → Mo Int32) (x1 : Int32) : Mo Int32 :=
  (if x1 ≥ (931 : Int32) then mBd (mGetI 11 28 x0) (fun r6 => mBd (mPutI 11 28 x0 (r6 - (1 : Int32))) (fun _ => f_X13_acts_j49 x0)) else mBd (mGetA 11 25 x0) (fun r7 => mBd (mGetA 11 25 x0) (fun r8 => mBd (mLdJ r8 (x1 + (49 : Int32))) (fun r9 => mBd (mStJ r7 x1 r9) (fun _ => k11 (x1 + 1))))))
def f_X13_acts_l11 (x0 : (Option Nat)) : Int32 → Mo Int32 := lq1 (f_X13_acts_b11 x0) fuel
set_option maxRecDepth 100000 in
theorem s_X13_acts_b11 {cx : CX} (x0 : (Option Nat)) {k11 : Int32 → Mo Int32} (hk11 : ∀ (z1 : Int32), Sn cx m_X13_acts eI 11 [(1, vI z1), (0, vA x0)] [] (k11 z1)) (x1 : Int32) : Sn cx m_X13_acts eI 11 [(1, vI x1), (0, vA x0)] [] (f_X13_acts_b11 x0 k11 x1) := by
  refine sn_iload_n (y := m_X13_acts) (pc := 11) dX13_acts_11 rfl ?_
  refine sn_sipush (y := m_X13_acts) (pc := 12) dX13_acts_12 kc_sipush_931 ?_
  refine sn_icmp_ge (y := m_X13_acts) (pc := 15) (tgt := 39) dX13_acts_15 (by decide) (fun _ => ?_) (fun _ => ?_)
  · refine sn_aload_n (y := m_X13_acts) (pc := 39) dX13_acts_39 rfl ?_
    refine sn_dup (y := m_X13_acts) (pc := 40) rfl dX13_acts_40 ?_
    refine sn_getI (y := m_X13_acts) (pc := 41) ca_11 rfl fk_X13_372 (fun _ _ _ => rfl) dX13_acts_41 (fun r6 => ?_)
    refine sn_iconst (y := m_X13_acts) (pc := 44) dX13_acts_44 kc_iconst_1 ?_
    refine sn_isub (y := m_X13_acts) (pc := 45) dX13_acts_45 ?_
    refine sn_putI (y := m_X13_acts) (pc := 46) ca_11 rfl fk_X13_372 (Or.inl rfl) rfl dX13_acts_46 ?_
    exact sn_sub rfl (s_X13_acts_j49 x0)
  refine sn_aload_n (y := m_X13_acts) (pc := 18) dX13_acts_18 rfl ?_
  refine sn_getA (y := m_X13_acts) (pc := 19) ca_11 rfl fk_X13_37 (fun _ _ _ => rfl) dX13_acts_19 (fun r7 => ?_)
  refine sn_iload_n (y := m_X13_acts) (pc := 22) dX13_acts_22 rfl ?_
  refine sn_aload_n (y := m_X13_acts) (pc := 23) dX13_acts_23 rfl ?_
  refine sn_getA (y := m_X13_acts) (pc := 24) ca_11 rfl fk_X13_37 (fun _ _ _ => rfl) dX13_acts_24 (fun r8 => ?_)
  refine sn_iload_n (y := m_X13_acts) (pc := 27) dX13_acts_27 rfl ?_
  refine sn_bipush (y := m_X13_acts) (pc := 28) dX13_acts_28 kc_bipush_49 ?_
  refine sn_iadd (y := m_X13_acts) (pc := 30) dX13_acts_30 ?_
  refine sn_laload (y := m_X13_acts) (pc := 31) dX13_acts_31 (fun r9 => ?_)
  refine sn_lastore (y := m_X13_acts) (pc := 32) dX13_acts_32 ?_
  refine sn_iinc (y := m_X13_acts) (pc := 33) (v := x1 + 1) dX13_acts_33 rfl (by rfl) rfl ?_
  refine sn_goto (y := m_X13_acts) (pc := 36) (tgt := 11) dX13_acts_36 (by decide) ?_
  exact sn_sub rfl (hk11 (x1 + 1))
set_option maxRecDepth 100000 in
theorem s_X13_acts_l11 {cx : CX} (x0 : (Option Nat)) (x1 : Int32) : Sn cx m_X13_acts eI 11 [(1, vI x1), (0, vA x0)] [] (f_X13_acts_l11 x0 x1) :=
  sn_lq1 (L := fun x1 => [(1, vI x1), (0, vA x0)]) (fun k hk x1 => s_X13_acts_b11 x0 hk x1) fuel x1
def f_X13_acts (p0 : (Option Nat)) : Mo Int32 :=
  mBd (mGetI 11 28 p0) (fun r1 => (if ¬ r1 = (20 : Int32) then f_X13_acts_j49 p0 else f_X13_acts_l11 p0 (0 : Int32)))
set_option maxRecDepth 100000 in
theorem s_X13_acts {cx : CX} (p0 : (Option Nat)) : Sn cx m_X13_acts eI 0 [(0, vA p0)] [] (f_X13_acts p0) := by
  refine sn_aload_n (y := m_X13_acts) (pc := 0) dX13_acts_0 rfl ?_
  refine sn_getI (y := m_X13_acts) (pc := 1) ca_11 rfl fk_X13_372 (fun _ _ _ => rfl) dX13_acts_1 (fun r1 => ?_)
  refine sn_bipush (y := m_X13_acts) (pc := 4) dX13_acts_4 kc_bipush_20 ?_
  refine sn_icmp_ne (y := m_X13_acts) (pc := 6) (tgt := 49) dX13_acts_6 (by decide) (fun _ => ?_) (fun _ => ?_)
  · exact sn_sub rfl (s_X13_acts_j49 p0)
  refine sn_iconst (y := m_X13_acts) (pc := 9) dX13_acts_9 kc_iconst_0 ?_
  refine sn_istore_n (y := m_X13_acts) (pc := 10) dX13_acts_10 rfl ?_
  exact sn_sub rfl (s_X13_acts_l11 p0 (0 : Int32))
set_option maxRecDepth 100000 in
theorem c_X13_acts (g : Gl) (p0 : (Option Nat)) : Cn g m_X13_acts eI [vA p0] (mCk 11 p0 (f_X13_acts p0)) := cn_of_sn (by decide +kernel) rfl (fun r => ⟨r, rfl⟩) rfl (fun _ _ => sn_ck (s_X13_acts p0))
/-! X13_isRegister -/
def f_X13_isRegister (p0 : (Option Nat)) (p1 : Int32) : Mo Int32 :=
  mBd (mGetA 11 3 p0) (fun r1 => (if r1 = none then mRt (0 : Int32) else mBd (f_X13_in p1 (0 : Int32) (3 : Int32)) (fun r2 => (if r2 = 0 then mRt (0 : Int32) else mRt (1 : Int32)))))
set_option maxRecDepth 100000 in
theorem s_X13_isRegister {cx : CX} (p0 : (Option Nat)) (p1 : Int32) : Sn cx m_X13_isRegister eI 0 [(0, vA p0), (1, vI p1)] [] (f_X13_isRegister p0 p1) := by
  refine sn_aload_n (y := m_X13_isRegister) (pc := 0) dX13_isRegister_0 rfl ?_
  refine sn_getA (y := m_X13_isRegister) (pc := 1) ca_11 rfl fk_X13_369 (fun _ _ _ => rfl) dX13_isRegister_1 (fun r1 => ?_)
  refine sn_ifnull (y := m_X13_isRegister) (pc := 4) (tgt := 20) dX13_isRegister_4 (by decide) ?_ ?_
  · refine sn_iconst (y := m_X13_isRegister) (pc := 20) dX13_isRegister_20 kc_iconst_0 ?_
    exact sn_zreturnC (by decide) rfl dX13_isRegister_21
  refine sn_iload_n (y := m_X13_isRegister) (pc := 7) dX13_isRegister_7 rfl ?_
  refine sn_iconst (y := m_X13_isRegister) (pc := 8) dX13_isRegister_8 kc_iconst_0 ?_
  refine sn_iconst (y := m_X13_isRegister) (pc := 9) dX13_isRegister_9 kc_iconst_3 ?_
  refine sn_invS (y := m_X13_isRegister) (pc := 10) (av := [vI p1, vI (0 : Int32), vI (3 : Int32)]) (st := []) dX13_isRegister_10 lk_X13_168 sw_X13_in rfl rfl rfl ⟨by decide, by decide⟩ (c_X13_in cx.1 p1 (0 : Int32) (3 : Int32)) (fun r2 => ?_)
  refine sn_if_eq (y := m_X13_isRegister) (pc := 13) (tgt := 20) dX13_isRegister_13 (by decide) (fun _ => ?_) (fun _ => ?_)
  · refine sn_iconst (y := m_X13_isRegister) (pc := 20) dX13_isRegister_20 kc_iconst_0 ?_
    exact sn_zreturnC (by decide) rfl dX13_isRegister_21
  refine sn_iconst (y := m_X13_isRegister) (pc := 16) dX13_isRegister_16 kc_iconst_1 ?_
  refine sn_goto (y := m_X13_isRegister) (pc := 17) (tgt := 21) dX13_isRegister_17 (by decide) ?_
  exact sn_zreturnC (by decide) rfl dX13_isRegister_21
set_option maxRecDepth 100000 in
theorem c_X13_isRegister (g : Gl) (p0 : (Option Nat)) (p1 : Int32) : Cn g m_X13_isRegister eI [vA p0, vI p1] (mCk 11 p0 (f_X13_isRegister p0 p1)) := cn_of_sn (by decide +kernel) rfl (fun r => ⟨r, rfl⟩) rfl (fun _ _ => sn_ck (s_X13_isRegister p0 p1))
/-! X13_chosen -/
def f_X13_chosen (p0 : (Option Nat)) : Mo (Option Nat) :=
  mBd (mGetA 11 3 p0) (fun r1 => mBd (mGetA 9 4 r1) (fun r2 => mBd (mGetA 11 24 p0) (fun r3 => mBd (mLdJ r3 (0 : Int32)) (fun r4 => mBd (mLdA 7 r2 (r4.toInt32)) (fun r5 => mRt r5)))))
set_option maxRecDepth 100000 in
theorem s_X13_chosen {cx : CX} (p0 : (Option Nat)) : Sn cx m_X13_chosen eA 0 [(0, vA p0)] [] (f_X13_chosen p0) := by
  refine sn_aload_n (y := m_X13_chosen) (pc := 0) dX13_chosen_0 rfl ?_
  refine sn_getA (y := m_X13_chosen) (pc := 1) ca_11 rfl fk_X13_369 (fun _ _ _ => rfl) dX13_chosen_1 (fun r1 => ?_)
  refine sn_getA (y := m_X13_chosen) (pc := 4) ca_9 rfl fk_X13_259 (fun _ _ _ => rfl) dX13_chosen_4 (fun r2 => ?_)
  refine sn_aload_n (y := m_X13_chosen) (pc := 7) dX13_chosen_7 rfl ?_
  refine sn_getA (y := m_X13_chosen) (pc := 8) ca_11 rfl fk_X13_34 (fun _ _ _ => rfl) dX13_chosen_8 (fun r3 => ?_)
  refine sn_iconst (y := m_X13_chosen) (pc := 11) dX13_chosen_11 kc_iconst_0 ?_
  refine sn_laload (y := m_X13_chosen) (pc := 12) dX13_chosen_12 (fun r4 => ?_)
  refine sn_l2i (y := m_X13_chosen) (pc := 13) dX13_chosen_13 ?_
  refine sn_aaload (y := m_X13_chosen) (pc := 14) dX13_chosen_14 (fun r5 => ?_)
  exact sn_areturn (Or.inl ⟨_, rfl⟩) dX13_chosen_15
set_option maxRecDepth 100000 in
theorem c_X13_chosen (g : Gl) (p0 : (Option Nat)) : Cn g m_X13_chosen eA [vA p0] (mCk 11 p0 (f_X13_chosen p0)) := cn_of_sn (by decide +kernel) rfl (fun r => ⟨r, rfl⟩) rfl (fun _ _ => sn_ck (s_X13_chosen p0))
/-! X13_loads -/
def f_X13_loads_b2 (x0 : (Option Nat)) (x1 : Int32) (x2 : Int32) (k2 : Int32 → Mo Unit) (x3 : Int32) : Mo Unit :=
  (if x3 ≥ (12 : Int32) then mRt () else mBd (mGetA 11 5 x0) (fun r1 => mBd (mGetA 11 24 x0) (fun r2 => mBd (mLdJ r2 (((1 : Int32) + ((12 : Int32) * x1)) + x3)) (fun r3 => mBd (mStJ r1 ((x2 * (12 : Int32)) + x3) r3) (fun _ => k2 (x3 + 1))))))
def f_X13_loads_l2 (x0 : (Option Nat)) (x1 : Int32) (x2 : Int32) : Int32 → Mo Unit := lq1 (f_X13_loads_b2 x0 x1 x2) fuel
set_option maxRecDepth 100000 in
theorem s_X13_loads_b2 {cx : CX} (x0 : (Option Nat)) (x1 : Int32) (x2 : Int32) {k2 : Int32 → Mo Unit} (hk2 : ∀ (z3 : Int32), Sn cx m_X13_loads eV 2 [(3, vI z3), (0, vA x0), (1, vI x1), (2, vI x2)] [] (k2 z3)) (x3 : Int32) : Sn cx m_X13_loads eV 2 [(3, vI x3), (0, vA x0), (1, vI x1), (2, vI x2)] [] (f_X13_loads_b2 x0 x1 x2 k2 x3) := by
  refine sn_iload_n (y := m_X13_loads) (pc := 2) dX13_loads_2 rfl ?_
  refine sn_bipush (y := m_X13_loads) (pc := 3) dX13_loads_3 kc_bipush_12 ?_
  refine sn_icmp_ge (y := m_X13_loads) (pc := 5) (tgt := 38) dX13_loads_5 (by decide) (fun _ => ?_) (fun _ => ?_)
  · exact sn_return rfl dX13_loads_38
  refine sn_aload_n (y := m_X13_loads) (pc := 8) dX13_loads_8 rfl ?_
  refine sn_getA (y := m_X13_loads) (pc := 9) ca_11 rfl fk_X13_13 (fun _ _ _ => rfl) dX13_loads_9 (fun r1 => ?_)
  refine sn_iload_n (y := m_X13_loads) (pc := 12) dX13_loads_12 rfl ?_
  refine sn_bipush (y := m_X13_loads) (pc := 13) dX13_loads_13 kc_bipush_12 ?_
  refine sn_imul (y := m_X13_loads) (pc := 15) dX13_loads_15 ?_
  refine sn_iload_n (y := m_X13_loads) (pc := 16) dX13_loads_16 rfl ?_
  refine sn_iadd (y := m_X13_loads) (pc := 17) dX13_loads_17 ?_
  refine sn_aload_n (y := m_X13_loads) (pc := 18) dX13_loads_18 rfl ?_
  refine sn_getA (y := m_X13_loads) (pc := 19) ca_11 rfl fk_X13_34 (fun _ _ _ => rfl) dX13_loads_19 (fun r2 => ?_)
  refine sn_iconst (y := m_X13_loads) (pc := 22) dX13_loads_22 kc_iconst_1 ?_
  refine sn_bipush (y := m_X13_loads) (pc := 23) dX13_loads_23 kc_bipush_12 ?_
  refine sn_iload_n (y := m_X13_loads) (pc := 25) dX13_loads_25 rfl ?_
  refine sn_imul (y := m_X13_loads) (pc := 26) dX13_loads_26 ?_
  refine sn_iadd (y := m_X13_loads) (pc := 27) dX13_loads_27 ?_
  refine sn_iload_n (y := m_X13_loads) (pc := 28) dX13_loads_28 rfl ?_
  refine sn_iadd (y := m_X13_loads) (pc := 29) dX13_loads_29 ?_
  refine sn_laload (y := m_X13_loads) (pc := 30) dX13_loads_30 (fun r3 => ?_)
  refine sn_lastore (y := m_X13_loads) (pc := 31) dX13_loads_31 ?_
  refine sn_iinc (y := m_X13_loads) (pc := 32) (v := x3 + 1) dX13_loads_32 rfl (by rfl) rfl ?_
  refine sn_goto (y := m_X13_loads) (pc := 35) (tgt := 2) dX13_loads_35 (by decide) ?_
  exact sn_sub rfl (hk2 (x3 + 1))
set_option maxRecDepth 100000 in
theorem s_X13_loads_l2 {cx : CX} (x0 : (Option Nat)) (x1 : Int32) (x2 : Int32) (x3 : Int32) : Sn cx m_X13_loads eV 2 [(3, vI x3), (0, vA x0), (1, vI x1), (2, vI x2)] [] (f_X13_loads_l2 x0 x1 x2 x3) :=
  sn_lq1 (L := fun x3 => [(3, vI x3), (0, vA x0), (1, vI x1), (2, vI x2)]) (fun k hk x3 => s_X13_loads_b2 x0 x1 x2 hk x3) fuel x3
def f_X13_loads (p0 : (Option Nat)) (p1 : Int32) (p2 : Int32) : Mo Unit :=
  f_X13_loads_l2 p0 p1 p2 (0 : Int32)
set_option maxRecDepth 100000 in
theorem s_X13_loads {cx : CX} (p0 : (Option Nat)) (p1 : Int32) (p2 : Int32) : Sn cx m_X13_loads eV 0 [(0, vA p0), (1, vI p1), (2, vI p2)] [] (f_X13_loads p0 p1 p2) := by
  refine sn_iconst (y := m_X13_loads) (pc := 0) dX13_loads_0 kc_iconst_0 ?_
  refine sn_istore_n (y := m_X13_loads) (pc := 1) dX13_loads_1 rfl ?_
  exact sn_sub rfl (s_X13_loads_l2 p0 p1 p2 (0 : Int32))
set_option maxRecDepth 100000 in
theorem c_X13_loads (g : Gl) (p0 : (Option Nat)) (p1 : Int32) (p2 : Int32) : Cn g m_X13_loads eV [vA p0, vI p1, vI p2] (mCk 11 p0 (f_X13_loads p0 p1 p2)) := cn_of_sn (by decide +kernel) rfl (fun _ => rfl) rfl (fun _ _ => sn_ck (s_X13_loads p0 p1 p2))
/-! X13_stores -/
def f_X13_stores_b7 (x0 : (Option Nat)) (x1 : Int32) (x2 : Int32) (k7 : Int32 → Mo Int32) (x3 : Int32) : Mo Int32 :=
  (if x3 ≥ (12 : Int32) then mRt (1 : Int32) else mBd (mGetA 11 24 x0) (fun r2 => mBd (mGetA 11 5 x0) (fun r3 => mBd (mLdJ r3 ((x1 * (12 : Int32)) + x3)) (fun r4 => mBd (mStJ r2 (((1 : Int32) + ((12 : Int32) * x2)) + x3) r4) (fun _ => k7 (x3 + 1))))))
def f_X13_stores_l7 (x0 : (Option Nat)) (x1 : Int32) (x2 : Int32) : Int32 → Mo Int32 := lq1 (f_X13_stores_b7 x0 x1 x2) fuel
set_option maxRecDepth 100000 in
theorem s_X13_stores_b7 {cx : CX} (x0 : (Option Nat)) (x1 : Int32) (x2 : Int32) {k7 : Int32 → Mo Int32} (hk7 : ∀ (z3 : Int32), Sn cx m_X13_stores eI 7 [(3, vI z3), (0, vA x0), (1, vI x1), (2, vI x2)] [] (k7 z3)) (x3 : Int32) : Sn cx m_X13_stores eI 7 [(3, vI x3), (0, vA x0), (1, vI x1), (2, vI x2)] [] (f_X13_stores_b7 x0 x1 x2 k7 x3) := by
  refine sn_iload_n (y := m_X13_stores) (pc := 7) dX13_stores_7 rfl ?_
  refine sn_bipush (y := m_X13_stores) (pc := 8) dX13_stores_8 kc_bipush_12 ?_
  refine sn_icmp_ge (y := m_X13_stores) (pc := 10) (tgt := 43) dX13_stores_10 (by decide) (fun _ => ?_) (fun _ => ?_)
  · refine sn_iconst (y := m_X13_stores) (pc := 43) dX13_stores_43 kc_iconst_1 ?_
    exact sn_zreturnC (by decide) rfl dX13_stores_44
  refine sn_aload_n (y := m_X13_stores) (pc := 13) dX13_stores_13 rfl ?_
  refine sn_getA (y := m_X13_stores) (pc := 14) ca_11 rfl fk_X13_34 (fun _ _ _ => rfl) dX13_stores_14 (fun r2 => ?_)
  refine sn_iconst (y := m_X13_stores) (pc := 17) dX13_stores_17 kc_iconst_1 ?_
  refine sn_bipush (y := m_X13_stores) (pc := 18) dX13_stores_18 kc_bipush_12 ?_
  refine sn_iload_n (y := m_X13_stores) (pc := 20) dX13_stores_20 rfl ?_
  refine sn_imul (y := m_X13_stores) (pc := 21) dX13_stores_21 ?_
  refine sn_iadd (y := m_X13_stores) (pc := 22) dX13_stores_22 ?_
  refine sn_iload_n (y := m_X13_stores) (pc := 23) dX13_stores_23 rfl ?_
  refine sn_iadd (y := m_X13_stores) (pc := 24) dX13_stores_24 ?_
  refine sn_aload_n (y := m_X13_stores) (pc := 25) dX13_stores_25 rfl ?_
  refine sn_getA (y := m_X13_stores) (pc := 26) ca_11 rfl fk_X13_13 (fun _ _ _ => rfl) dX13_stores_26 (fun r3 => ?_)
  refine sn_iload_n (y := m_X13_stores) (pc := 29) dX13_stores_29 rfl ?_
  refine sn_bipush (y := m_X13_stores) (pc := 30) dX13_stores_30 kc_bipush_12 ?_
  refine sn_imul (y := m_X13_stores) (pc := 32) dX13_stores_32 ?_
  refine sn_iload_n (y := m_X13_stores) (pc := 33) dX13_stores_33 rfl ?_
  refine sn_iadd (y := m_X13_stores) (pc := 34) dX13_stores_34 ?_
  refine sn_laload (y := m_X13_stores) (pc := 35) dX13_stores_35 (fun r4 => ?_)
  refine sn_lastore (y := m_X13_stores) (pc := 36) dX13_stores_36 ?_
  refine sn_iinc (y := m_X13_stores) (pc := 37) (v := x3 + 1) dX13_stores_37 rfl (by rfl) rfl ?_
  refine sn_goto (y := m_X13_stores) (pc := 40) (tgt := 7) dX13_stores_40 (by decide) ?_
  exact sn_sub rfl (hk7 (x3 + 1))
set_option maxRecDepth 100000 in
theorem s_X13_stores_l7 {cx : CX} (x0 : (Option Nat)) (x1 : Int32) (x2 : Int32) (x3 : Int32) : Sn cx m_X13_stores eI 7 [(3, vI x3), (0, vA x0), (1, vI x1), (2, vI x2)] [] (f_X13_stores_l7 x0 x1 x2 x3) :=
  sn_lq1 (L := fun x3 => [(3, vI x3), (0, vA x0), (1, vI x1), (2, vI x2)]) (fun k hk x3 => s_X13_stores_b7 x0 x1 x2 hk x3) fuel x3
def f_X13_stores (p0 : (Option Nat)) (p1 : Int32) (p2 : Int32) : Mo Int32 :=
  mBd (mCk 11 p0 (f_X13_acts p0)) (fun r1 => f_X13_stores_l7 p0 p1 p2 (0 : Int32))
set_option maxRecDepth 100000 in
theorem s_X13_stores {cx : CX} (p0 : (Option Nat)) (p1 : Int32) (p2 : Int32) : Sn cx m_X13_stores eI 0 [(0, vA p0), (1, vI p1), (2, vI p2)] [] (f_X13_stores p0 p1 p2) := by
  refine sn_aload_n (y := m_X13_stores) (pc := 0) dX13_stores_0 rfl ?_
  refine sn_invV (y := m_X13_stores) (pc := 1) ca_11 (av := []) (o := p0) (st := []) dX13_stores_1 lk_X13_458 im_X13_acts se_X13_acts rfl rfl rfl rfl ⟨by decide, by decide⟩ (c_X13_acts cx.1 p0) (fun r1 => ?_)
  refine sn_pop (y := m_X13_stores) (pc := 4) rfl dX13_stores_4 ?_
  refine sn_iconst (y := m_X13_stores) (pc := 5) dX13_stores_5 kc_iconst_0 ?_
  refine sn_istore_n (y := m_X13_stores) (pc := 6) dX13_stores_6 rfl ?_
  exact sn_sub rfl (s_X13_stores_l7 p0 p1 p2 (0 : Int32))
set_option maxRecDepth 100000 in
theorem c_X13_stores (g : Gl) (p0 : (Option Nat)) (p1 : Int32) (p2 : Int32) : Cn g m_X13_stores eI [vA p0, vI p1, vI p2] (mCk 11 p0 (f_X13_stores p0 p1 p2)) := cn_of_sn (by decide +kernel) rfl (fun r => ⟨r, rfl⟩) rfl (fun _ _ => sn_ck (s_X13_stores p0 p1 p2))
/-! X13_choose -/
def f_X13_choose_b26 (x0 : (Option Nat)) (x1 : Int32) (k26 : Int32 → Mo Int32) (x2 : Int32) : Mo Int32 :=
  (if x2 ≥ (49 : Int32) then mRt (1 : Int32) else mBd (mGetA 11 24 x0) (fun r3 => (if ¬ x2 = 0 then mBd (mStJ r3 x2 (0 : Int64)) (fun _ => k26 (x2 + 1)) else mBd (mStJ r3 x2 (x1.toInt64)) (fun _ => k26 (x2 + 1)))))
def f_X13_choose_l26 (x0 : (Option Nat)) (x1 : Int32) : Int32 → Mo Int32 := lq1 (f_X13_choose_b26 x0 x1) fuel
set_option maxRecDepth 100000 in
theorem s_X13_choose_b26 {cx : CX} (x0 : (Option Nat)) (x1 : Int32) {k26 : Int32 → Mo Int32} (hk26 : ∀ (z2 : Int32), Sn cx m_X13_choose eI 26 [(2, vI z2), (0, vA x0), (1, vI x1)] [] (k26 z2)) (x2 : Int32) : Sn cx m_X13_choose eI 26 [(2, vI x2), (0, vA x0), (1, vI x1)] [] (f_X13_choose_b26 x0 x1 k26 x2) := by
  refine sn_iload_n (y := m_X13_choose) (pc := 26) dX13_choose_26 rfl ?_
  refine sn_bipush (y := m_X13_choose) (pc := 27) dX13_choose_27 kc_bipush_49 ?_
  refine sn_icmp_ge (y := m_X13_choose) (pc := 29) (tgt := 54) dX13_choose_29 (by decide) (fun _ => ?_) (fun _ => ?_)
  · refine sn_iconst (y := m_X13_choose) (pc := 54) dX13_choose_54 kc_iconst_1 ?_
    exact sn_zreturnC (by decide) rfl dX13_choose_55
  refine sn_aload_n (y := m_X13_choose) (pc := 32) dX13_choose_32 rfl ?_
  refine sn_getA (y := m_X13_choose) (pc := 33) ca_11 rfl fk_X13_34 (fun _ _ _ => rfl) dX13_choose_33 (fun r3 => ?_)
  refine sn_iload_n (y := m_X13_choose) (pc := 36) dX13_choose_36 rfl ?_
  refine sn_iload_n (y := m_X13_choose) (pc := 37) dX13_choose_37 rfl ?_
  refine sn_if_ne (y := m_X13_choose) (pc := 38) (tgt := 46) dX13_choose_38 (by decide) (fun _ => ?_) (fun _ => ?_)
  · refine sn_lconst (y := m_X13_choose) (pc := 46) dX13_choose_46 kc_lconst_0 ?_
    refine sn_lastore (y := m_X13_choose) (pc := 47) dX13_choose_47 ?_
    refine sn_iinc (y := m_X13_choose) (pc := 48) (v := x2 + 1) dX13_choose_48 rfl (by rfl) rfl ?_
    refine sn_goto (y := m_X13_choose) (pc := 51) (tgt := 26) dX13_choose_51 (by decide) ?_
    exact sn_sub rfl (hk26 (x2 + 1))
  refine sn_iload_n (y := m_X13_choose) (pc := 41) dX13_choose_41 rfl ?_
  refine sn_i2l (y := m_X13_choose) (pc := 42) dX13_choose_42 ?_
  refine sn_goto (y := m_X13_choose) (pc := 43) (tgt := 47) dX13_choose_43 (by decide) ?_
  refine sn_lastore (y := m_X13_choose) (pc := 47) dX13_choose_47 ?_
  refine sn_iinc (y := m_X13_choose) (pc := 48) (v := x2 + 1) dX13_choose_48 rfl (by rfl) rfl ?_
  refine sn_goto (y := m_X13_choose) (pc := 51) (tgt := 26) dX13_choose_51 (by decide) ?_
  exact sn_sub rfl (hk26 (x2 + 1))
set_option maxRecDepth 100000 in
theorem s_X13_choose_l26 {cx : CX} (x0 : (Option Nat)) (x1 : Int32) (x2 : Int32) : Sn cx m_X13_choose eI 26 [(2, vI x2), (0, vA x0), (1, vI x1)] [] (f_X13_choose_l26 x0 x1 x2) :=
  sn_lq1 (L := fun x2 => [(2, vI x2), (0, vA x0), (1, vI x1)]) (fun k hk x2 => s_X13_choose_b26 x0 x1 hk x2) fuel x2
def f_X13_choose (p0 : (Option Nat)) (p1 : Int32) : Mo Int32 :=
  mBd (mPutI 11 0 p0 (0 : Int32)) (fun _ => mBd (mCk 11 p0 (f_X13_isField p0 p1)) (fun r1 => (if ¬ r1 = 0 then mBd (mCk 11 p0 (f_X13_acts p0)) (fun r2 => f_X13_choose_l26 p0 p1 (0 : Int32)) else mBd (mCk 11 p0 (f_X13_denied p0 (1 : Int32))) (fun r4 => mRq (r4 = 0 ∨ r4 = 1) (mRt r4)))))
set_option maxRecDepth 100000 in
theorem s_X13_choose {cx : CX} (p0 : (Option Nat)) (p1 : Int32) : Sn cx m_X13_choose eI 0 [(0, vA p0), (1, vI p1)] [] (f_X13_choose p0 p1) := by
  refine sn_aload_n (y := m_X13_choose) (pc := 0) dX13_choose_0 rfl ?_
  refine sn_iconst (y := m_X13_choose) (pc := 1) dX13_choose_1 kc_iconst_0 ?_
  refine sn_putI (y := m_X13_choose) (pc := 2) ca_11 rfl fk_X13_46 (Or.inl rfl) rfl dX13_choose_2 ?_
  refine sn_aload_n (y := m_X13_choose) (pc := 5) dX13_choose_5 rfl ?_
  refine sn_iload_n (y := m_X13_choose) (pc := 6) dX13_choose_6 rfl ?_
  refine sn_invV (y := m_X13_choose) (pc := 7) ca_11 (av := [vI p1]) (o := p0) (st := []) dX13_choose_7 lk_X13_381 im_X13_isField se_X13_isField rfl rfl rfl rfl ⟨by decide, by decide⟩ (c_X13_isField cx.1 p0 p1) (fun r1 => ?_)
  refine sn_if_ne (y := m_X13_choose) (pc := 10) (tgt := 19) dX13_choose_10 (by decide) (fun _ => ?_) (fun _ => ?_)
  · refine sn_aload_n (y := m_X13_choose) (pc := 19) dX13_choose_19 rfl ?_
    refine sn_invV (y := m_X13_choose) (pc := 20) ca_11 (av := []) (o := p0) (st := []) dX13_choose_20 lk_X13_458 im_X13_acts se_X13_acts rfl rfl rfl rfl ⟨by decide, by decide⟩ (c_X13_acts cx.1 p0) (fun r2 => ?_)
    refine sn_pop (y := m_X13_choose) (pc := 23) rfl dX13_choose_23 ?_
    refine sn_iconst (y := m_X13_choose) (pc := 24) dX13_choose_24 kc_iconst_0 ?_
    refine sn_istore_n (y := m_X13_choose) (pc := 25) dX13_choose_25 rfl ?_
    exact sn_sub rfl (s_X13_choose_l26 p0 p1 (0 : Int32))
  refine sn_aload_n (y := m_X13_choose) (pc := 13) dX13_choose_13 rfl ?_
  refine sn_iconst (y := m_X13_choose) (pc := 14) dX13_choose_14 kc_iconst_1 ?_
  refine sn_invV (y := m_X13_choose) (pc := 15) ca_11 (av := [vI (1 : Int32)]) (o := p0) (st := []) dX13_choose_15 lk_X13_461 im_X13_denied se_X13_denied rfl rfl rfl rfl ⟨by decide, by decide⟩ (c_X13_denied cx.1 p0 (1 : Int32)) (fun r4 => ?_)
  exact sn_zreturn rfl dX13_choose_18
set_option maxRecDepth 100000 in
theorem c_X13_choose (g : Gl) (p0 : (Option Nat)) (p1 : Int32) : Cn g m_X13_choose eI [vA p0, vI p1] (mCk 11 p0 (f_X13_choose p0 p1)) := cn_of_sn (by decide +kernel) rfl (fun r => ⟨r, rfl⟩) rfl (fun _ _ => sn_ck (s_X13_choose p0 p1))
/-! X13_register -/
def f_X13_register (p0 : (Option Nat)) (p1 : Int32) (p2 : Int32) : Mo Int32 :=
  mBd (mPutI 11 0 p0 (0 : Int32)) (fun _ => mBd (mCk 11 p0 (f_X13_isRegister p0 p1)) (fun r1 => (if r1 = 0 then mBd (mCk 11 p0 (f_X13_refusedBy p0 (1 : Int32) (-1000000000 : Int32))) (fun r2 => mRt r2) else mBd (mCk 11 p0 (f_X13_chosen p0)) (fun r3 => mBd (mGetI 10 3 r3) (fun r4 => mBd (f_X13_in p2 (0 : Int32) (r4 - (1 : Int32))) (fun r5 => (if r5 = 0 then mBd (mCk 11 p0 (f_X13_refusedBy p0 (1 : Int32) (-1000000000 : Int32))) (fun r6 => mRt r6) else mBd (mGetA 11 24 p0) (fun r7 => mBd (mLdJ r7 (((1 : Int32) + ((12 : Int32) * p1)) + p2)) (fun r8 => mBd (mCk 11 p0 (f_X13_good p0 (r8.toInt32))) (fun r9 => mRt r9))))))))))
set_option maxRecDepth 100000 in
theorem s_X13_register {cx : CX} (p0 : (Option Nat)) (p1 : Int32) (p2 : Int32) : Sn cx m_X13_register eI 0 [(0, vA p0), (1, vI p1), (2, vI p2)] [] (f_X13_register p0 p1 p2) := by
  refine sn_aload_n (y := m_X13_register) (pc := 0) dX13_register_0 rfl ?_
  refine sn_iconst (y := m_X13_register) (pc := 1) dX13_register_1 kc_iconst_0 ?_
  refine sn_putI (y := m_X13_register) (pc := 2) ca_11 rfl fk_X13_46 (Or.inl rfl) rfl dX13_register_2 ?_
  refine sn_aload_n (y := m_X13_register) (pc := 5) dX13_register_5 rfl ?_
  refine sn_iload_n (y := m_X13_register) (pc := 6) dX13_register_6 rfl ?_
  refine sn_invV (y := m_X13_register) (pc := 7) ca_11 (av := [vI p1]) (o := p0) (st := []) dX13_register_7 lk_X13_464 im_X13_isRegister se_X13_isRegister rfl rfl rfl rfl ⟨by decide, by decide⟩ (c_X13_isRegister cx.1 p0 p1) (fun r1 => ?_)
  refine sn_if_eq (y := m_X13_register) (pc := 10) (tgt := 51) dX13_register_10 (by decide) (fun _ => ?_) (fun _ => ?_)
  · refine sn_aload_n (y := m_X13_register) (pc := 51) dX13_register_51 rfl ?_
    refine sn_iconst (y := m_X13_register) (pc := 52) dX13_register_52 kc_iconst_1 ?_
    refine sn_ldcW (y := m_X13_register) (pc := 53) ki_X13_410 dX13_register_53 ?_
    refine sn_invV (y := m_X13_register) (pc := 56) ca_11 (av := [vI (1 : Int32), vI (-1000000000 : Int32)]) (o := p0) (st := []) dX13_register_56 lk_X13_391 im_X13_refusedBy se_X13_refusedBy rfl rfl rfl rfl ⟨by decide, by decide⟩ (c_X13_refusedBy cx.1 p0 (1 : Int32) (-1000000000 : Int32)) (fun r2 => ?_)
    exact sn_ireturn rfl dX13_register_59
  refine sn_iload_n (y := m_X13_register) (pc := 13) dX13_register_13 rfl ?_
  refine sn_iconst (y := m_X13_register) (pc := 14) dX13_register_14 kc_iconst_0 ?_
  refine sn_aload_n (y := m_X13_register) (pc := 15) dX13_register_15 rfl ?_
  refine sn_invV (y := m_X13_register) (pc := 16) ca_11 (av := []) (o := p0) (st := [vI (0 : Int32), vI p2]) dX13_register_16 lk_X13_467 im_X13_chosen se_X13_chosen rfl rfl rfl rfl ⟨by decide, by decide⟩ (c_X13_chosen cx.1 p0) (fun r3 => ?_)
  refine sn_getI (y := m_X13_register) (pc := 19) ca_10 rfl fk_X13_64 (fun _ _ _ => rfl) dX13_register_19 (fun r4 => ?_)
  refine sn_iconst (y := m_X13_register) (pc := 22) dX13_register_22 kc_iconst_1 ?_
  refine sn_isub (y := m_X13_register) (pc := 23) dX13_register_23 ?_
  refine sn_invS (y := m_X13_register) (pc := 24) (av := [vI p2, vI (0 : Int32), vI (r4 - (1 : Int32))]) (st := []) dX13_register_24 lk_X13_168 sw_X13_in rfl rfl rfl ⟨by decide, by decide⟩ (c_X13_in cx.1 p2 (0 : Int32) (r4 - (1 : Int32))) (fun r5 => ?_)
  refine sn_if_eq (y := m_X13_register) (pc := 27) (tgt := 51) dX13_register_27 (by decide) (fun _ => ?_) (fun _ => ?_)
  · refine sn_aload_n (y := m_X13_register) (pc := 51) dX13_register_51 rfl ?_
    refine sn_iconst (y := m_X13_register) (pc := 52) dX13_register_52 kc_iconst_1 ?_
    refine sn_ldcW (y := m_X13_register) (pc := 53) ki_X13_410 dX13_register_53 ?_
    refine sn_invV (y := m_X13_register) (pc := 56) ca_11 (av := [vI (1 : Int32), vI (-1000000000 : Int32)]) (o := p0) (st := []) dX13_register_56 lk_X13_391 im_X13_refusedBy se_X13_refusedBy rfl rfl rfl rfl ⟨by decide, by decide⟩ (c_X13_refusedBy cx.1 p0 (1 : Int32) (-1000000000 : Int32)) (fun r6 => ?_)
    exact sn_ireturn rfl dX13_register_59
  refine sn_aload_n (y := m_X13_register) (pc := 30) dX13_register_30 rfl ?_
  refine sn_aload_n (y := m_X13_register) (pc := 31) dX13_register_31 rfl ?_
  refine sn_getA (y := m_X13_register) (pc := 32) ca_11 rfl fk_X13_34 (fun _ _ _ => rfl) dX13_register_32 (fun r7 => ?_)
  refine sn_iconst (y := m_X13_register) (pc := 35) dX13_register_35 kc_iconst_1 ?_
  refine sn_bipush (y := m_X13_register) (pc := 36) dX13_register_36 kc_bipush_12 ?_
  refine sn_iload_n (y := m_X13_register) (pc := 38) dX13_register_38 rfl ?_
  refine sn_imul (y := m_X13_register) (pc := 39) dX13_register_39 ?_
  refine sn_iadd (y := m_X13_register) (pc := 40) dX13_register_40 ?_
  refine sn_iload_n (y := m_X13_register) (pc := 41) dX13_register_41 rfl ?_
  refine sn_iadd (y := m_X13_register) (pc := 42) dX13_register_42 ?_
  refine sn_laload (y := m_X13_register) (pc := 43) dX13_register_43 (fun r8 => ?_)
  refine sn_l2i (y := m_X13_register) (pc := 44) dX13_register_44 ?_
  refine sn_invV (y := m_X13_register) (pc := 45) ca_11 (av := [vI (r8.toInt32)]) (o := p0) (st := []) dX13_register_45 lk_X13_56 im_X13_good se_X13_good rfl rfl rfl rfl ⟨by decide, by decide⟩ (c_X13_good cx.1 p0 (r8.toInt32)) (fun r9 => ?_)
  refine sn_goto (y := m_X13_register) (pc := 48) (tgt := 59) dX13_register_48 (by decide) ?_
  exact sn_ireturn rfl dX13_register_59
set_option maxRecDepth 100000 in
theorem c_X13_register (g : Gl) (p0 : (Option Nat)) (p1 : Int32) (p2 : Int32) : Cn g m_X13_register eI [vA p0, vI p1, vI p2] (mCk 11 p0 (f_X13_register p0 p1 p2)) := cn_of_sn (by decide +kernel) rfl (fun r => ⟨r, rfl⟩) rfl (fun _ _ => sn_ck (s_X13_register p0 p1 p2))
/-! X13_take -/
def f_X13_take (p0 : (Option Nat)) (p1 : Int32) (p2 : Int32) : Mo Int32 :=
  mBd (mPutI 11 0 p0 (0 : Int32)) (fun _ => mBd (mCk 11 p0 (f_X13_isRegister p0 p1)) (fun r1 => (if r1 = 0 then mBd (mCk 11 p0 (f_X13_denied p0 (1 : Int32))) (fun r2 => mRq (r2 = 0 ∨ r2 = 1) (mRt r2)) else mBd (mCk 11 p0 (f_X13_isLet p0 p2)) (fun r3 => (if ¬ r3 = 0 then mBd (mGetA 11 3 p0) (fun r4 => mBd (mGetA 9 10 r4) (fun r5 => mBd (mLdI 1 r5 p2) (fun r6 => mBd (mGetA 11 24 p0) (fun r7 => mBd (mLdJ r7 (0 : Int32)) (fun r8 => (if (r6.toInt64) = r8 then mBd (mCk 11 p0 (f_X13_lets p0 p2 (0 : Int32))) (fun _ => mBd (mCk 11 p0 (f_X13_stores p0 (0 : Int32) p1)) (fun r9 => mRq (r9 = 0 ∨ r9 = 1) (mRt r9))) else mBd (mCk 11 p0 (f_X13_denied p0 (5 : Int32))) (fun r10 => mRq (r10 = 0 ∨ r10 = 1) (mRt r10)))))))) else mBd (mCk 11 p0 (f_X13_denied p0 (1 : Int32))) (fun r11 => mRq (r11 = 0 ∨ r11 = 1) (mRt r11)))))))
set_option maxRecDepth 100000 in
theorem s_X13_take {cx : CX} (p0 : (Option Nat)) (p1 : Int32) (p2 : Int32) : Sn cx m_X13_take eI 0 [(0, vA p0), (1, vI p1), (2, vI p2)] [] (f_X13_take p0 p1 p2) := by
  refine sn_aload_n (y := m_X13_take) (pc := 0) dX13_take_0 rfl ?_
  refine sn_iconst (y := m_X13_take) (pc := 1) dX13_take_1 kc_iconst_0 ?_
  refine sn_putI (y := m_X13_take) (pc := 2) ca_11 rfl fk_X13_46 (Or.inl rfl) rfl dX13_take_2 ?_
  refine sn_aload_n (y := m_X13_take) (pc := 5) dX13_take_5 rfl ?_
  refine sn_iload_n (y := m_X13_take) (pc := 6) dX13_take_6 rfl ?_
  refine sn_invV (y := m_X13_take) (pc := 7) ca_11 (av := [vI p1]) (o := p0) (st := []) dX13_take_7 lk_X13_464 im_X13_isRegister se_X13_isRegister rfl rfl rfl rfl ⟨by decide, by decide⟩ (c_X13_isRegister cx.1 p0 p1) (fun r1 => ?_)
  refine sn_if_eq (y := m_X13_take) (pc := 10) (tgt := 21) dX13_take_10 (by decide) (fun _ => ?_) (fun _ => ?_)
  · refine sn_aload_n (y := m_X13_take) (pc := 21) dX13_take_21 rfl ?_
    refine sn_iconst (y := m_X13_take) (pc := 22) dX13_take_22 kc_iconst_1 ?_
    refine sn_invV (y := m_X13_take) (pc := 23) ca_11 (av := [vI (1 : Int32)]) (o := p0) (st := []) dX13_take_23 lk_X13_461 im_X13_denied se_X13_denied rfl rfl rfl rfl ⟨by decide, by decide⟩ (c_X13_denied cx.1 p0 (1 : Int32)) (fun r2 => ?_)
    exact sn_zreturn rfl dX13_take_26
  refine sn_aload_n (y := m_X13_take) (pc := 13) dX13_take_13 rfl ?_
  refine sn_iload_n (y := m_X13_take) (pc := 14) dX13_take_14 rfl ?_
  refine sn_invV (y := m_X13_take) (pc := 15) ca_11 (av := [vI p2]) (o := p0) (st := []) dX13_take_15 lk_X13_403 im_X13_isLet se_X13_isLet rfl rfl rfl rfl ⟨by decide, by decide⟩ (c_X13_isLet cx.1 p0 p2) (fun r3 => ?_)
  refine sn_if_ne (y := m_X13_take) (pc := 18) (tgt := 27) dX13_take_18 (by decide) (fun _ => ?_) (fun _ => ?_)
  · refine sn_aload_n (y := m_X13_take) (pc := 27) dX13_take_27 rfl ?_
    refine sn_getA (y := m_X13_take) (pc := 28) ca_11 rfl fk_X13_369 (fun _ _ _ => rfl) dX13_take_28 (fun r4 => ?_)
    refine sn_getA (y := m_X13_take) (pc := 31) ca_9 rfl fk_X13_316 (fun _ _ _ => rfl) dX13_take_31 (fun r5 => ?_)
    refine sn_iload_n (y := m_X13_take) (pc := 34) dX13_take_34 rfl ?_
    refine sn_iaload (y := m_X13_take) (pc := 35) dX13_take_35 (fun r6 => ?_)
    refine sn_i2l (y := m_X13_take) (pc := 36) dX13_take_36 ?_
    refine sn_aload_n (y := m_X13_take) (pc := 37) dX13_take_37 rfl ?_
    refine sn_getA (y := m_X13_take) (pc := 38) ca_11 rfl fk_X13_34 (fun _ _ _ => rfl) dX13_take_38 (fun r7 => ?_)
    refine sn_iconst (y := m_X13_take) (pc := 41) dX13_take_41 kc_iconst_0 ?_
    refine sn_laload (y := m_X13_take) (pc := 42) dX13_take_42 (fun r8 => ?_)
    refine sn_lc_eq (y := m_X13_take) (pc := 43) (tgt := 53) dX13_take_43 dX13_take_44 (by decide) (fun _ => ?_) (fun _ => ?_)
    · refine sn_aload_n (y := m_X13_take) (pc := 53) dX13_take_53 rfl ?_
      refine sn_iload_n (y := m_X13_take) (pc := 54) dX13_take_54 rfl ?_
      refine sn_iconst (y := m_X13_take) (pc := 55) dX13_take_55 kc_iconst_0 ?_
      refine sn_invV (y := m_X13_take) (pc := 56) ca_11 (av := [vI p2, vI (0 : Int32)]) (o := p0) (st := []) dX13_take_56 lk_X13_411 im_X13_lets se_X13_lets rfl rfl rfl rfl ⟨by decide, by decide⟩ (c_X13_lets cx.1 p0 p2 (0 : Int32)) (fun _ => ?_)
      refine sn_aload_n (y := m_X13_take) (pc := 59) dX13_take_59 rfl ?_
      refine sn_iconst (y := m_X13_take) (pc := 60) dX13_take_60 kc_iconst_0 ?_
      refine sn_iload_n (y := m_X13_take) (pc := 61) dX13_take_61 rfl ?_
      refine sn_invV (y := m_X13_take) (pc := 62) ca_11 (av := [vI (0 : Int32), vI p1]) (o := p0) (st := []) dX13_take_62 lk_X13_471 im_X13_stores se_X13_stores rfl rfl rfl rfl ⟨by decide, by decide⟩ (c_X13_stores cx.1 p0 (0 : Int32) p1) (fun r9 => ?_)
      exact sn_zreturn rfl dX13_take_65
    refine sn_aload_n (y := m_X13_take) (pc := 47) dX13_take_47 rfl ?_
    refine sn_iconst (y := m_X13_take) (pc := 48) dX13_take_48 kc_iconst_5 ?_
    refine sn_invV (y := m_X13_take) (pc := 49) ca_11 (av := [vI (5 : Int32)]) (o := p0) (st := []) dX13_take_49 lk_X13_461 im_X13_denied se_X13_denied rfl rfl rfl rfl ⟨by decide, by decide⟩ (c_X13_denied cx.1 p0 (5 : Int32)) (fun r10 => ?_)
    exact sn_zreturn rfl dX13_take_52
  refine sn_aload_n (y := m_X13_take) (pc := 21) dX13_take_21 rfl ?_
  refine sn_iconst (y := m_X13_take) (pc := 22) dX13_take_22 kc_iconst_1 ?_
  refine sn_invV (y := m_X13_take) (pc := 23) ca_11 (av := [vI (1 : Int32)]) (o := p0) (st := []) dX13_take_23 lk_X13_461 im_X13_denied se_X13_denied rfl rfl rfl rfl ⟨by decide, by decide⟩ (c_X13_denied cx.1 p0 (1 : Int32)) (fun r11 => ?_)
  exact sn_zreturn rfl dX13_take_26
set_option maxRecDepth 100000 in
theorem c_X13_take (g : Gl) (p0 : (Option Nat)) (p1 : Int32) (p2 : Int32) : Cn g m_X13_take eI [vA p0, vI p1, vI p2] (mCk 11 p0 (f_X13_take p0 p1 p2)) := cn_of_sn (by decide +kernel) rfl (fun r => ⟨r, rfl⟩) rfl (fun _ _ => sn_ck (s_X13_take p0 p1 p2))
/-! X13_jacobi -/
def f_X13_jacobi (p0 : (Option Nat)) (p1 : Int32) (p2 : Int32) (p3 : Int32) : Mo Int32 :=
  mBd (mPutI 11 0 p0 (0 : Int32)) (fun _ => mBd (mCk 11 p0 (f_X13_isRegister p0 p1)) (fun r1 => (if r1 = 0 then mBd (mCk 11 p0 (f_X13_denied p0 (1 : Int32))) (fun r2 => mRq (r2 = 0 ∨ r2 = 1) (mRt r2)) else mBd (mGetA 11 24 p0) (fun r3 => mBd (mLdJ r3 (0 : Int32)) (fun r4 => mBd (mCk 11 p0 (f_X13_areOrders p0 (r4.toInt32) p2 p3)) (fun r5 => (if ¬ r5 = 0 then mBd (mCk 11 p0 (f_X13_chosen p0)) (fun r6 => mBd (mCk 11 p0 (f_X13_jacobiRow p0 r6 p2 p3 (0 : Int32))) (fun _ => mBd (mCk 11 p0 (f_X13_stores p0 (0 : Int32) p1)) (fun r7 => mRq (r7 = 0 ∨ r7 = 1) (mRt r7)))) else mBd (mCk 11 p0 (f_X13_denied p0 (1 : Int32))) (fun r8 => mRq (r8 = 0 ∨ r8 = 1) (mRt r8)))))))))
set_option maxRecDepth 100000 in
theorem s_X13_jacobi {cx : CX} (p0 : (Option Nat)) (p1 : Int32) (p2 : Int32) (p3 : Int32) : Sn cx m_X13_jacobi eI 0 [(0, vA p0), (1, vI p1), (2, vI p2), (3, vI p3)] [] (f_X13_jacobi p0 p1 p2 p3) := by
  refine sn_aload_n (y := m_X13_jacobi) (pc := 0) dX13_jacobi_0 rfl ?_
  refine sn_iconst (y := m_X13_jacobi) (pc := 1) dX13_jacobi_1 kc_iconst_0 ?_
  refine sn_putI (y := m_X13_jacobi) (pc := 2) ca_11 rfl fk_X13_46 (Or.inl rfl) rfl dX13_jacobi_2 ?_
  refine sn_aload_n (y := m_X13_jacobi) (pc := 5) dX13_jacobi_5 rfl ?_
  refine sn_iload_n (y := m_X13_jacobi) (pc := 6) dX13_jacobi_6 rfl ?_
  refine sn_invV (y := m_X13_jacobi) (pc := 7) ca_11 (av := [vI p1]) (o := p0) (st := []) dX13_jacobi_7 lk_X13_464 im_X13_isRegister se_X13_isRegister rfl rfl rfl rfl ⟨by decide, by decide⟩ (c_X13_isRegister cx.1 p0 p1) (fun r1 => ?_)
  refine sn_if_eq (y := m_X13_jacobi) (pc := 10) (tgt := 29) dX13_jacobi_10 (by decide) (fun _ => ?_) (fun _ => ?_)
  · refine sn_aload_n (y := m_X13_jacobi) (pc := 29) dX13_jacobi_29 rfl ?_
    refine sn_iconst (y := m_X13_jacobi) (pc := 30) dX13_jacobi_30 kc_iconst_1 ?_
    refine sn_invV (y := m_X13_jacobi) (pc := 31) ca_11 (av := [vI (1 : Int32)]) (o := p0) (st := []) dX13_jacobi_31 lk_X13_461 im_X13_denied se_X13_denied rfl rfl rfl rfl ⟨by decide, by decide⟩ (c_X13_denied cx.1 p0 (1 : Int32)) (fun r2 => ?_)
    exact sn_zreturn rfl dX13_jacobi_34
  refine sn_aload_n (y := m_X13_jacobi) (pc := 13) dX13_jacobi_13 rfl ?_
  refine sn_aload_n (y := m_X13_jacobi) (pc := 14) dX13_jacobi_14 rfl ?_
  refine sn_getA (y := m_X13_jacobi) (pc := 15) ca_11 rfl fk_X13_34 (fun _ _ _ => rfl) dX13_jacobi_15 (fun r3 => ?_)
  refine sn_iconst (y := m_X13_jacobi) (pc := 18) dX13_jacobi_18 kc_iconst_0 ?_
  refine sn_laload (y := m_X13_jacobi) (pc := 19) dX13_jacobi_19 (fun r4 => ?_)
  refine sn_l2i (y := m_X13_jacobi) (pc := 20) dX13_jacobi_20 ?_
  refine sn_iload_n (y := m_X13_jacobi) (pc := 21) dX13_jacobi_21 rfl ?_
  refine sn_iload_n (y := m_X13_jacobi) (pc := 22) dX13_jacobi_22 rfl ?_
  refine sn_invV (y := m_X13_jacobi) (pc := 23) ca_11 (av := [vI (r4.toInt32), vI p2, vI p3]) (o := p0) (st := []) dX13_jacobi_23 lk_X13_388 im_X13_areOrders se_X13_areOrders rfl rfl rfl rfl ⟨by decide, by decide⟩ (c_X13_areOrders cx.1 p0 (r4.toInt32) p2 p3) (fun r5 => ?_)
  refine sn_if_ne (y := m_X13_jacobi) (pc := 26) (tgt := 35) dX13_jacobi_26 (by decide) (fun _ => ?_) (fun _ => ?_)
  · refine sn_aload_n (y := m_X13_jacobi) (pc := 35) dX13_jacobi_35 rfl ?_
    refine sn_aload_n (y := m_X13_jacobi) (pc := 36) dX13_jacobi_36 rfl ?_
    refine sn_invV (y := m_X13_jacobi) (pc := 37) ca_11 (av := []) (o := p0) (st := [vA p0]) dX13_jacobi_37 lk_X13_467 im_X13_chosen se_X13_chosen rfl rfl rfl rfl ⟨by decide, by decide⟩ (c_X13_chosen cx.1 p0) (fun r6 => ?_)
    refine sn_iload_n (y := m_X13_jacobi) (pc := 40) dX13_jacobi_40 rfl ?_
    refine sn_iload_n (y := m_X13_jacobi) (pc := 41) dX13_jacobi_41 rfl ?_
    refine sn_iconst (y := m_X13_jacobi) (pc := 42) dX13_jacobi_42 kc_iconst_0 ?_
    refine sn_invV (y := m_X13_jacobi) (pc := 43) ca_11 (av := [vA r6, vI p2, vI p3, vI (0 : Int32)]) (o := p0) (st := []) dX13_jacobi_43 lk_X13_353 im_X13_jacobiRow se_X13_jacobiRow rfl rfl rfl rfl ⟨by decide, by decide⟩ (c_X13_jacobiRow cx.1 p0 r6 p2 p3 (0 : Int32)) (fun _ => ?_)
    refine sn_aload_n (y := m_X13_jacobi) (pc := 46) dX13_jacobi_46 rfl ?_
    refine sn_iconst (y := m_X13_jacobi) (pc := 47) dX13_jacobi_47 kc_iconst_0 ?_
    refine sn_iload_n (y := m_X13_jacobi) (pc := 48) dX13_jacobi_48 rfl ?_
    refine sn_invV (y := m_X13_jacobi) (pc := 49) ca_11 (av := [vI (0 : Int32), vI p1]) (o := p0) (st := []) dX13_jacobi_49 lk_X13_471 im_X13_stores se_X13_stores rfl rfl rfl rfl ⟨by decide, by decide⟩ (c_X13_stores cx.1 p0 (0 : Int32) p1) (fun r7 => ?_)
    exact sn_zreturn rfl dX13_jacobi_52
  refine sn_aload_n (y := m_X13_jacobi) (pc := 29) dX13_jacobi_29 rfl ?_
  refine sn_iconst (y := m_X13_jacobi) (pc := 30) dX13_jacobi_30 kc_iconst_1 ?_
  refine sn_invV (y := m_X13_jacobi) (pc := 31) ca_11 (av := [vI (1 : Int32)]) (o := p0) (st := []) dX13_jacobi_31 lk_X13_461 im_X13_denied se_X13_denied rfl rfl rfl rfl ⟨by decide, by decide⟩ (c_X13_denied cx.1 p0 (1 : Int32)) (fun r8 => ?_)
  exact sn_zreturn rfl dX13_jacobi_34
set_option maxRecDepth 100000 in
theorem c_X13_jacobi (g : Gl) (p0 : (Option Nat)) (p1 : Int32) (p2 : Int32) (p3 : Int32) : Cn g m_X13_jacobi eI [vA p0, vI p1, vI p2, vI p3] (mCk 11 p0 (f_X13_jacobi p0 p1 p2 p3)) := cn_of_sn (by decide +kernel) rfl (fun r => ⟨r, rfl⟩) rfl (fun _ _ => sn_ck (s_X13_jacobi p0 p1 p2 p3))
/-! X13_add -/
def f_X13_add (p0 : (Option Nat)) (p1 : Int32) (p2 : Int32) (p3 : Int32) : Mo Int32 :=
  mBd (mPutI 11 0 p0 (0 : Int32)) (fun _ => mBd (mCk 11 p0 (f_X13_isRegister p0 p1)) (fun r1 => (if r1 = 0 then mBd (mCk 11 p0 (f_X13_denied p0 (1 : Int32))) (fun r2 => mRq (r2 = 0 ∨ r2 = 1) (mRt r2)) else mBd (mCk 11 p0 (f_X13_isRegister p0 p2)) (fun r3 => (if ¬ r3 = 0 then mBd (f_X13_in p3 (-999 : Int32) (999 : Int32)) (fun r4 => (if ¬ r4 = 0 then mBd (mCk 11 p0 (f_X13_loads p0 p1 (0 : Int32))) (fun _ => mBd (mCk 11 p0 (f_X13_loads p0 p2 (1 : Int32))) (fun _ => mBd (mCk 11 p0 (f_X13_added p0 (0 : Int32) (1 : Int32) (p3.toInt64))) (fun _ => mBd (mCk 11 p0 (f_X13_isHuge p0 (0 : Int32))) (fun r5 => (if r5 = 0 then mBd (mCk 11 p0 (f_X13_stores p0 (0 : Int32) p1)) (fun r6 => mRq (r6 = 0 ∨ r6 = 1) (mRt r6)) else mBd (mCk 11 p0 (f_X13_denied p0 (7 : Int32))) (fun r7 => mRq (r7 = 0 ∨ r7 = 1) (mRt r7))))))) else mBd (mCk 11 p0 (f_X13_denied p0 (2 : Int32))) (fun r8 => mRq (r8 = 0 ∨ r8 = 1) (mRt r8)))) else mBd (mCk 11 p0 (f_X13_denied p0 (1 : Int32))) (fun r9 => mRq (r9 = 0 ∨ r9 = 1) (mRt r9)))))))
set_option maxRecDepth 100000 in
theorem s_X13_add {cx : CX} (p0 : (Option Nat)) (p1 : Int32) (p2 : Int32) (p3 : Int32) : Sn cx m_X13_add eI 0 [(0, vA p0), (1, vI p1), (2, vI p2), (3, vI p3)] [] (f_X13_add p0 p1 p2 p3) := by
  refine sn_aload_n (y := m_X13_add) (pc := 0) dX13_add_0 rfl ?_
  refine sn_iconst (y := m_X13_add) (pc := 1) dX13_add_1 kc_iconst_0 ?_
  refine sn_putI (y := m_X13_add) (pc := 2) ca_11 rfl fk_X13_46 (Or.inl rfl) rfl dX13_add_2 ?_
  refine sn_aload_n (y := m_X13_add) (pc := 5) dX13_add_5 rfl ?_
  refine sn_iload_n (y := m_X13_add) (pc := 6) dX13_add_6 rfl ?_
  refine sn_invV (y := m_X13_add) (pc := 7) ca_11 (av := [vI p1]) (o := p0) (st := []) dX13_add_7 lk_X13_464 im_X13_isRegister se_X13_isRegister rfl rfl rfl rfl ⟨by decide, by decide⟩ (c_X13_isRegister cx.1 p0 p1) (fun r1 => ?_)
  refine sn_if_eq (y := m_X13_add) (pc := 10) (tgt := 21) dX13_add_10 (by decide) (fun _ => ?_) (fun _ => ?_)
  · refine sn_aload_n (y := m_X13_add) (pc := 21) dX13_add_21 rfl ?_
    refine sn_iconst (y := m_X13_add) (pc := 22) dX13_add_22 kc_iconst_1 ?_
    refine sn_invV (y := m_X13_add) (pc := 23) ca_11 (av := [vI (1 : Int32)]) (o := p0) (st := []) dX13_add_23 lk_X13_461 im_X13_denied se_X13_denied rfl rfl rfl rfl ⟨by decide, by decide⟩ (c_X13_denied cx.1 p0 (1 : Int32)) (fun r2 => ?_)
    exact sn_zreturn rfl dX13_add_26
  refine sn_aload_n (y := m_X13_add) (pc := 13) dX13_add_13 rfl ?_
  refine sn_iload_n (y := m_X13_add) (pc := 14) dX13_add_14 rfl ?_
  refine sn_invV (y := m_X13_add) (pc := 15) ca_11 (av := [vI p2]) (o := p0) (st := []) dX13_add_15 lk_X13_464 im_X13_isRegister se_X13_isRegister rfl rfl rfl rfl ⟨by decide, by decide⟩ (c_X13_isRegister cx.1 p0 p2) (fun r3 => ?_)
  refine sn_if_ne (y := m_X13_add) (pc := 18) (tgt := 27) dX13_add_18 (by decide) (fun _ => ?_) (fun _ => ?_)
  · refine sn_iload_n (y := m_X13_add) (pc := 27) dX13_add_27 rfl ?_
    refine sn_sipush (y := m_X13_add) (pc := 28) dX13_add_28 kc_sipush_m999 ?_
    refine sn_sipush (y := m_X13_add) (pc := 31) dX13_add_31 kc_sipush_999 ?_
    refine sn_invS (y := m_X13_add) (pc := 34) (av := [vI p3, vI (-999 : Int32), vI (999 : Int32)]) (st := []) dX13_add_34 lk_X13_168 sw_X13_in rfl rfl rfl ⟨by decide, by decide⟩ (c_X13_in cx.1 p3 (-999 : Int32) (999 : Int32)) (fun r4 => ?_)
    refine sn_if_ne (y := m_X13_add) (pc := 37) (tgt := 46) dX13_add_37 (by decide) (fun _ => ?_) (fun _ => ?_)
    · refine sn_aload_n (y := m_X13_add) (pc := 46) dX13_add_46 rfl ?_
      refine sn_iload_n (y := m_X13_add) (pc := 47) dX13_add_47 rfl ?_
      refine sn_iconst (y := m_X13_add) (pc := 48) dX13_add_48 kc_iconst_0 ?_
      refine sn_invV (y := m_X13_add) (pc := 49) ca_11 (av := [vI p1, vI (0 : Int32)]) (o := p0) (st := []) dX13_add_49 lk_X13_474 im_X13_loads se_X13_loads rfl rfl rfl rfl ⟨by decide, by decide⟩ (c_X13_loads cx.1 p0 p1 (0 : Int32)) (fun _ => ?_)
      refine sn_aload_n (y := m_X13_add) (pc := 52) dX13_add_52 rfl ?_
      refine sn_iload_n (y := m_X13_add) (pc := 53) dX13_add_53 rfl ?_
      refine sn_iconst (y := m_X13_add) (pc := 54) dX13_add_54 kc_iconst_1 ?_
      refine sn_invV (y := m_X13_add) (pc := 55) ca_11 (av := [vI p2, vI (1 : Int32)]) (o := p0) (st := []) dX13_add_55 lk_X13_474 im_X13_loads se_X13_loads rfl rfl rfl rfl ⟨by decide, by decide⟩ (c_X13_loads cx.1 p0 p2 (1 : Int32)) (fun _ => ?_)
      refine sn_aload_n (y := m_X13_add) (pc := 58) dX13_add_58 rfl ?_
      refine sn_iconst (y := m_X13_add) (pc := 59) dX13_add_59 kc_iconst_0 ?_
      refine sn_iconst (y := m_X13_add) (pc := 60) dX13_add_60 kc_iconst_1 ?_
      refine sn_iload_n (y := m_X13_add) (pc := 61) dX13_add_61 rfl ?_
      refine sn_i2l (y := m_X13_add) (pc := 62) dX13_add_62 ?_
      refine sn_invV (y := m_X13_add) (pc := 63) ca_11 (av := [vI (0 : Int32), vI (1 : Int32), vJ (p3.toInt64)]) (o := p0) (st := []) dX13_add_63 lk_X13_324 im_X13_added se_X13_added rfl rfl rfl rfl ⟨by decide, by decide⟩ (c_X13_added cx.1 p0 (0 : Int32) (1 : Int32) (p3.toInt64)) (fun _ => ?_)
      refine sn_aload_n (y := m_X13_add) (pc := 66) dX13_add_66 rfl ?_
      refine sn_iconst (y := m_X13_add) (pc := 67) dX13_add_67 kc_iconst_0 ?_
      refine sn_invV (y := m_X13_add) (pc := 68) ca_11 (av := [vI (0 : Int32)]) (o := p0) (st := []) dX13_add_68 lk_X13_290 im_X13_isHuge se_X13_isHuge rfl rfl rfl rfl ⟨by decide, by decide⟩ (c_X13_isHuge cx.1 p0 (0 : Int32)) (fun r5 => ?_)
      refine sn_if_eq (y := m_X13_add) (pc := 71) (tgt := 83) dX13_add_71 (by decide) (fun _ => ?_) (fun _ => ?_)
      · refine sn_aload_n (y := m_X13_add) (pc := 83) dX13_add_83 rfl ?_
        refine sn_iconst (y := m_X13_add) (pc := 84) dX13_add_84 kc_iconst_0 ?_
        refine sn_iload_n (y := m_X13_add) (pc := 85) dX13_add_85 rfl ?_
        refine sn_invV (y := m_X13_add) (pc := 86) ca_11 (av := [vI (0 : Int32), vI p1]) (o := p0) (st := []) dX13_add_86 lk_X13_471 im_X13_stores se_X13_stores rfl rfl rfl rfl ⟨by decide, by decide⟩ (c_X13_stores cx.1 p0 (0 : Int32) p1) (fun r6 => ?_)
        exact sn_zreturn rfl dX13_add_89
      refine sn_aload_n (y := m_X13_add) (pc := 74) dX13_add_74 rfl ?_
      refine sn_bipush (y := m_X13_add) (pc := 75) dX13_add_75 kc_bipush_7 ?_
      refine sn_invV (y := m_X13_add) (pc := 77) ca_11 (av := [vI (7 : Int32)]) (o := p0) (st := []) dX13_add_77 lk_X13_461 im_X13_denied se_X13_denied rfl rfl rfl rfl ⟨by decide, by decide⟩ (c_X13_denied cx.1 p0 (7 : Int32)) (fun r7 => ?_)
      refine sn_goto (y := m_X13_add) (pc := 80) (tgt := 89) dX13_add_80 (by decide) ?_
      exact sn_zreturn rfl dX13_add_89
    refine sn_aload_n (y := m_X13_add) (pc := 40) dX13_add_40 rfl ?_
    refine sn_iconst (y := m_X13_add) (pc := 41) dX13_add_41 kc_iconst_2 ?_
    refine sn_invV (y := m_X13_add) (pc := 42) ca_11 (av := [vI (2 : Int32)]) (o := p0) (st := []) dX13_add_42 lk_X13_461 im_X13_denied se_X13_denied rfl rfl rfl rfl ⟨by decide, by decide⟩ (c_X13_denied cx.1 p0 (2 : Int32)) (fun r8 => ?_)
    exact sn_zreturn rfl dX13_add_45
  refine sn_aload_n (y := m_X13_add) (pc := 21) dX13_add_21 rfl ?_
  refine sn_iconst (y := m_X13_add) (pc := 22) dX13_add_22 kc_iconst_1 ?_
  refine sn_invV (y := m_X13_add) (pc := 23) ca_11 (av := [vI (1 : Int32)]) (o := p0) (st := []) dX13_add_23 lk_X13_461 im_X13_denied se_X13_denied rfl rfl rfl rfl ⟨by decide, by decide⟩ (c_X13_denied cx.1 p0 (1 : Int32)) (fun r9 => ?_)
  exact sn_zreturn rfl dX13_add_26
set_option maxRecDepth 100000 in
theorem c_X13_add (g : Gl) (p0 : (Option Nat)) (p1 : Int32) (p2 : Int32) (p3 : Int32) : Cn g m_X13_add eI [vA p0, vI p1, vI p2, vI p3] (mCk 11 p0 (f_X13_add p0 p1 p2 p3)) := cn_of_sn (by decide +kernel) rfl (fun r => ⟨r, rfl⟩) rfl (fun _ _ => sn_ck (s_X13_add p0 p1 p2 p3))
/-! X13_times -/
def f_X13_times (p0 : (Option Nat)) (p1 : Int32) (p2 : Int32) : Mo Int32 :=
  mBd (mPutI 11 0 p0 (0 : Int32)) (fun _ => mBd (mCk 11 p0 (f_X13_isRegister p0 p1)) (fun r1 => (if r1 = 0 then mBd (mCk 11 p0 (f_X13_denied p0 (1 : Int32))) (fun r2 => mRq (r2 = 0 ∨ r2 = 1) (mRt r2)) else mBd (mCk 11 p0 (f_X13_isRegister p0 p2)) (fun r3 => (if ¬ r3 = 0 then mBd (mCk 11 p0 (f_X13_loads p0 p1 (0 : Int32))) (fun _ => mBd (mCk 11 p0 (f_X13_loads p0 p2 (1 : Int32))) (fun _ => mBd (mCk 11 p0 (f_X13_chosen p0)) (fun r4 => mBd (mCk 11 p0 (f_X13_multiply p0 r4 (0 : Int32) (1 : Int32) (2 : Int32))) (fun _ => mBd (mCk 11 p0 (f_X13_isHuge p0 (2 : Int32))) (fun r5 => (if r5 = 0 then mBd (mCk 11 p0 (f_X13_stores p0 (2 : Int32) p1)) (fun r6 => mRq (r6 = 0 ∨ r6 = 1) (mRt r6)) else mBd (mCk 11 p0 (f_X13_denied p0 (7 : Int32))) (fun r7 => mRq (r7 = 0 ∨ r7 = 1) (mRt r7)))))))) else mBd (mCk 11 p0 (f_X13_denied p0 (1 : Int32))) (fun r8 => mRq (r8 = 0 ∨ r8 = 1) (mRt r8)))))))
set_option maxRecDepth 100000 in
theorem s_X13_times {cx : CX} (p0 : (Option Nat)) (p1 : Int32) (p2 : Int32) : Sn cx m_X13_times eI 0 [(0, vA p0), (1, vI p1), (2, vI p2)] [] (f_X13_times p0 p1 p2) := by
  refine sn_aload_n (y := m_X13_times) (pc := 0) dX13_times_0 rfl ?_
  refine sn_iconst (y := m_X13_times) (pc := 1) dX13_times_1 kc_iconst_0 ?_
  refine sn_putI (y := m_X13_times) (pc := 2) ca_11 rfl fk_X13_46 (Or.inl rfl) rfl dX13_times_2 ?_
  refine sn_aload_n (y := m_X13_times) (pc := 5) dX13_times_5 rfl ?_
  refine sn_iload_n (y := m_X13_times) (pc := 6) dX13_times_6 rfl ?_
  refine sn_invV (y := m_X13_times) (pc := 7) ca_11 (av := [vI p1]) (o := p0) (st := []) dX13_times_7 lk_X13_464 im_X13_isRegister se_X13_isRegister rfl rfl rfl rfl ⟨by decide, by decide⟩ (c_X13_isRegister cx.1 p0 p1) (fun r1 => ?_)
  refine sn_if_eq (y := m_X13_times) (pc := 10) (tgt := 21) dX13_times_10 (by decide) (fun _ => ?_) (fun _ => ?_)
  · refine sn_aload_n (y := m_X13_times) (pc := 21) dX13_times_21 rfl ?_
    refine sn_iconst (y := m_X13_times) (pc := 22) dX13_times_22 kc_iconst_1 ?_
    refine sn_invV (y := m_X13_times) (pc := 23) ca_11 (av := [vI (1 : Int32)]) (o := p0) (st := []) dX13_times_23 lk_X13_461 im_X13_denied se_X13_denied rfl rfl rfl rfl ⟨by decide, by decide⟩ (c_X13_denied cx.1 p0 (1 : Int32)) (fun r2 => ?_)
    exact sn_zreturn rfl dX13_times_26
  refine sn_aload_n (y := m_X13_times) (pc := 13) dX13_times_13 rfl ?_
  refine sn_iload_n (y := m_X13_times) (pc := 14) dX13_times_14 rfl ?_
  refine sn_invV (y := m_X13_times) (pc := 15) ca_11 (av := [vI p2]) (o := p0) (st := []) dX13_times_15 lk_X13_464 im_X13_isRegister se_X13_isRegister rfl rfl rfl rfl ⟨by decide, by decide⟩ (c_X13_isRegister cx.1 p0 p2) (fun r3 => ?_)
  refine sn_if_ne (y := m_X13_times) (pc := 18) (tgt := 27) dX13_times_18 (by decide) (fun _ => ?_) (fun _ => ?_)
  · refine sn_aload_n (y := m_X13_times) (pc := 27) dX13_times_27 rfl ?_
    refine sn_iload_n (y := m_X13_times) (pc := 28) dX13_times_28 rfl ?_
    refine sn_iconst (y := m_X13_times) (pc := 29) dX13_times_29 kc_iconst_0 ?_
    refine sn_invV (y := m_X13_times) (pc := 30) ca_11 (av := [vI p1, vI (0 : Int32)]) (o := p0) (st := []) dX13_times_30 lk_X13_474 im_X13_loads se_X13_loads rfl rfl rfl rfl ⟨by decide, by decide⟩ (c_X13_loads cx.1 p0 p1 (0 : Int32)) (fun _ => ?_)
    refine sn_aload_n (y := m_X13_times) (pc := 33) dX13_times_33 rfl ?_
    refine sn_iload_n (y := m_X13_times) (pc := 34) dX13_times_34 rfl ?_
    refine sn_iconst (y := m_X13_times) (pc := 35) dX13_times_35 kc_iconst_1 ?_
    refine sn_invV (y := m_X13_times) (pc := 36) ca_11 (av := [vI p2, vI (1 : Int32)]) (o := p0) (st := []) dX13_times_36 lk_X13_474 im_X13_loads se_X13_loads rfl rfl rfl rfl ⟨by decide, by decide⟩ (c_X13_loads cx.1 p0 p2 (1 : Int32)) (fun _ => ?_)
    refine sn_aload_n (y := m_X13_times) (pc := 39) dX13_times_39 rfl ?_
    refine sn_aload_n (y := m_X13_times) (pc := 40) dX13_times_40 rfl ?_
    refine sn_invV (y := m_X13_times) (pc := 41) ca_11 (av := []) (o := p0) (st := [vA p0]) dX13_times_41 lk_X13_467 im_X13_chosen se_X13_chosen rfl rfl rfl rfl ⟨by decide, by decide⟩ (c_X13_chosen cx.1 p0) (fun r4 => ?_)
    refine sn_iconst (y := m_X13_times) (pc := 44) dX13_times_44 kc_iconst_0 ?_
    refine sn_iconst (y := m_X13_times) (pc := 45) dX13_times_45 kc_iconst_1 ?_
    refine sn_iconst (y := m_X13_times) (pc := 46) dX13_times_46 kc_iconst_2 ?_
    refine sn_invV (y := m_X13_times) (pc := 47) ca_11 (av := [vA r4, vI (0 : Int32), vI (1 : Int32), vI (2 : Int32)]) (o := p0) (st := []) dX13_times_47 lk_X13_334 im_X13_multiply se_X13_multiply rfl rfl rfl rfl ⟨by decide, by decide⟩ (c_X13_multiply cx.1 p0 r4 (0 : Int32) (1 : Int32) (2 : Int32)) (fun _ => ?_)
    refine sn_aload_n (y := m_X13_times) (pc := 50) dX13_times_50 rfl ?_
    refine sn_iconst (y := m_X13_times) (pc := 51) dX13_times_51 kc_iconst_2 ?_
    refine sn_invV (y := m_X13_times) (pc := 52) ca_11 (av := [vI (2 : Int32)]) (o := p0) (st := []) dX13_times_52 lk_X13_290 im_X13_isHuge se_X13_isHuge rfl rfl rfl rfl ⟨by decide, by decide⟩ (c_X13_isHuge cx.1 p0 (2 : Int32)) (fun r5 => ?_)
    refine sn_if_eq (y := m_X13_times) (pc := 55) (tgt := 67) dX13_times_55 (by decide) (fun _ => ?_) (fun _ => ?_)
    · refine sn_aload_n (y := m_X13_times) (pc := 67) dX13_times_67 rfl ?_
      refine sn_iconst (y := m_X13_times) (pc := 68) dX13_times_68 kc_iconst_2 ?_
      refine sn_iload_n (y := m_X13_times) (pc := 69) dX13_times_69 rfl ?_
      refine sn_invV (y := m_X13_times) (pc := 70) ca_11 (av := [vI (2 : Int32), vI p1]) (o := p0) (st := []) dX13_times_70 lk_X13_471 im_X13_stores se_X13_stores rfl rfl rfl rfl ⟨by decide, by decide⟩ (c_X13_stores cx.1 p0 (2 : Int32) p1) (fun r6 => ?_)
      exact sn_zreturn rfl dX13_times_73
    refine sn_aload_n (y := m_X13_times) (pc := 58) dX13_times_58 rfl ?_
    refine sn_bipush (y := m_X13_times) (pc := 59) dX13_times_59 kc_bipush_7 ?_
    refine sn_invV (y := m_X13_times) (pc := 61) ca_11 (av := [vI (7 : Int32)]) (o := p0) (st := []) dX13_times_61 lk_X13_461 im_X13_denied se_X13_denied rfl rfl rfl rfl ⟨by decide, by decide⟩ (c_X13_denied cx.1 p0 (7 : Int32)) (fun r7 => ?_)
    refine sn_goto (y := m_X13_times) (pc := 64) (tgt := 73) dX13_times_64 (by decide) ?_
    exact sn_zreturn rfl dX13_times_73
  refine sn_aload_n (y := m_X13_times) (pc := 21) dX13_times_21 rfl ?_
  refine sn_iconst (y := m_X13_times) (pc := 22) dX13_times_22 kc_iconst_1 ?_
  refine sn_invV (y := m_X13_times) (pc := 23) ca_11 (av := [vI (1 : Int32)]) (o := p0) (st := []) dX13_times_23 lk_X13_461 im_X13_denied se_X13_denied rfl rfl rfl rfl ⟨by decide, by decide⟩ (c_X13_denied cx.1 p0 (1 : Int32)) (fun r8 => ?_)
  exact sn_zreturn rfl dX13_times_26
set_option maxRecDepth 100000 in
theorem c_X13_times (g : Gl) (p0 : (Option Nat)) (p1 : Int32) (p2 : Int32) : Cn g m_X13_times eI [vA p0, vI p1, vI p2] (mCk 11 p0 (f_X13_times p0 p1 p2)) := cn_of_sn (by decide +kernel) rfl (fun r => ⟨r, rfl⟩) rfl (fun _ _ => sn_ck (s_X13_times p0 p1 p2))
/-! X13_turn -/
def f_X13_turn (p0 : (Option Nat)) (p1 : Int32) (p2 : Int32) : Mo Int32 :=
  mBd (mPutI 11 0 p0 (0 : Int32)) (fun _ => mBd (mCk 11 p0 (f_X13_isRegister p0 p1)) (fun r1 => (if ¬ r1 = 0 then mBd (mCk 11 p0 (f_X13_chosen p0)) (fun r2 => mBd (mCk 10 r2 (f_X12_isUnit r2 p2)) (fun r3 => (if ¬ r3 = 0 then mBd (mCk 11 p0 (f_X13_loads p0 p1 (0 : Int32))) (fun _ => mBd (mCk 11 p0 (f_X13_chosen p0)) (fun r4 => mBd (mCk 11 p0 (f_X13_turned p0 r4 (0 : Int32) p2 (1 : Int32))) (fun _ => mBd (mCk 11 p0 (f_X13_isHuge p0 (1 : Int32))) (fun r5 => (if r5 = 0 then mBd (mCk 11 p0 (f_X13_stores p0 (1 : Int32) p1)) (fun r6 => mRq (r6 = 0 ∨ r6 = 1) (mRt r6)) else mBd (mCk 11 p0 (f_X13_denied p0 (7 : Int32))) (fun r7 => mRq (r7 = 0 ∨ r7 = 1) (mRt r7))))))) else mBd (mCk 11 p0 (f_X13_denied p0 (2 : Int32))) (fun r8 => mRq (r8 = 0 ∨ r8 = 1) (mRt r8))))) else mBd (mCk 11 p0 (f_X13_denied p0 (1 : Int32))) (fun r9 => mRq (r9 = 0 ∨ r9 = 1) (mRt r9)))))
set_option maxRecDepth 100000 in
theorem s_X13_turn {cx : CX} (p0 : (Option Nat)) (p1 : Int32) (p2 : Int32) : Sn cx m_X13_turn eI 0 [(0, vA p0), (1, vI p1), (2, vI p2)] [] (f_X13_turn p0 p1 p2) := by
  refine sn_aload_n (y := m_X13_turn) (pc := 0) dX13_turn_0 rfl ?_
  refine sn_iconst (y := m_X13_turn) (pc := 1) dX13_turn_1 kc_iconst_0 ?_
  refine sn_putI (y := m_X13_turn) (pc := 2) ca_11 rfl fk_X13_46 (Or.inl rfl) rfl dX13_turn_2 ?_
  refine sn_aload_n (y := m_X13_turn) (pc := 5) dX13_turn_5 rfl ?_
  refine sn_iload_n (y := m_X13_turn) (pc := 6) dX13_turn_6 rfl ?_
  refine sn_invV (y := m_X13_turn) (pc := 7) ca_11 (av := [vI p1]) (o := p0) (st := []) dX13_turn_7 lk_X13_464 im_X13_isRegister se_X13_isRegister rfl rfl rfl rfl ⟨by decide, by decide⟩ (c_X13_isRegister cx.1 p0 p1) (fun r1 => ?_)
  refine sn_if_ne (y := m_X13_turn) (pc := 10) (tgt := 19) dX13_turn_10 (by decide) (fun _ => ?_) (fun _ => ?_)
  · refine sn_aload_n (y := m_X13_turn) (pc := 19) dX13_turn_19 rfl ?_
    refine sn_invV (y := m_X13_turn) (pc := 20) ca_11 (av := []) (o := p0) (st := []) dX13_turn_20 lk_X13_467 im_X13_chosen se_X13_chosen rfl rfl rfl rfl ⟨by decide, by decide⟩ (c_X13_chosen cx.1 p0) (fun r2 => ?_)
    refine sn_iload_n (y := m_X13_turn) (pc := 23) dX13_turn_23 rfl ?_
    refine sn_invV (y := m_X13_turn) (pc := 24) ca_10 (av := [vI p2]) (o := r2) (st := []) dX13_turn_24 lk_X13_347 im_X12_isUnit se_X12_isUnit rfl rfl rfl rfl ⟨by decide, by decide⟩ (c_X12_isUnit cx.1 r2 p2) (fun r3 => ?_)
    refine sn_if_ne (y := m_X13_turn) (pc := 27) (tgt := 36) dX13_turn_27 (by decide) (fun _ => ?_) (fun _ => ?_)
    · refine sn_aload_n (y := m_X13_turn) (pc := 36) dX13_turn_36 rfl ?_
      refine sn_iload_n (y := m_X13_turn) (pc := 37) dX13_turn_37 rfl ?_
      refine sn_iconst (y := m_X13_turn) (pc := 38) dX13_turn_38 kc_iconst_0 ?_
      refine sn_invV (y := m_X13_turn) (pc := 39) ca_11 (av := [vI p1, vI (0 : Int32)]) (o := p0) (st := []) dX13_turn_39 lk_X13_474 im_X13_loads se_X13_loads rfl rfl rfl rfl ⟨by decide, by decide⟩ (c_X13_loads cx.1 p0 p1 (0 : Int32)) (fun _ => ?_)
      refine sn_aload_n (y := m_X13_turn) (pc := 42) dX13_turn_42 rfl ?_
      refine sn_aload_n (y := m_X13_turn) (pc := 43) dX13_turn_43 rfl ?_
      refine sn_invV (y := m_X13_turn) (pc := 44) ca_11 (av := []) (o := p0) (st := [vA p0]) dX13_turn_44 lk_X13_467 im_X13_chosen se_X13_chosen rfl rfl rfl rfl ⟨by decide, by decide⟩ (c_X13_chosen cx.1 p0) (fun r4 => ?_)
      refine sn_iconst (y := m_X13_turn) (pc := 47) dX13_turn_47 kc_iconst_0 ?_
      refine sn_iload_n (y := m_X13_turn) (pc := 48) dX13_turn_48 rfl ?_
      refine sn_iconst (y := m_X13_turn) (pc := 49) dX13_turn_49 kc_iconst_1 ?_
      refine sn_invV (y := m_X13_turn) (pc := 50) ca_11 (av := [vA r4, vI (0 : Int32), vI p2, vI (1 : Int32)]) (o := p0) (st := []) dX13_turn_50 lk_X13_359 im_X13_turned se_X13_turned rfl rfl rfl rfl ⟨by decide, by decide⟩ (c_X13_turned cx.1 p0 r4 (0 : Int32) p2 (1 : Int32)) (fun _ => ?_)
      refine sn_aload_n (y := m_X13_turn) (pc := 53) dX13_turn_53 rfl ?_
      refine sn_iconst (y := m_X13_turn) (pc := 54) dX13_turn_54 kc_iconst_1 ?_
      refine sn_invV (y := m_X13_turn) (pc := 55) ca_11 (av := [vI (1 : Int32)]) (o := p0) (st := []) dX13_turn_55 lk_X13_290 im_X13_isHuge se_X13_isHuge rfl rfl rfl rfl ⟨by decide, by decide⟩ (c_X13_isHuge cx.1 p0 (1 : Int32)) (fun r5 => ?_)
      refine sn_if_eq (y := m_X13_turn) (pc := 58) (tgt := 70) dX13_turn_58 (by decide) (fun _ => ?_) (fun _ => ?_)
      · refine sn_aload_n (y := m_X13_turn) (pc := 70) dX13_turn_70 rfl ?_
        refine sn_iconst (y := m_X13_turn) (pc := 71) dX13_turn_71 kc_iconst_1 ?_
        refine sn_iload_n (y := m_X13_turn) (pc := 72) dX13_turn_72 rfl ?_
        refine sn_invV (y := m_X13_turn) (pc := 73) ca_11 (av := [vI (1 : Int32), vI p1]) (o := p0) (st := []) dX13_turn_73 lk_X13_471 im_X13_stores se_X13_stores rfl rfl rfl rfl ⟨by decide, by decide⟩ (c_X13_stores cx.1 p0 (1 : Int32) p1) (fun r6 => ?_)
        exact sn_zreturn rfl dX13_turn_76
      refine sn_aload_n (y := m_X13_turn) (pc := 61) dX13_turn_61 rfl ?_
      refine sn_bipush (y := m_X13_turn) (pc := 62) dX13_turn_62 kc_bipush_7 ?_
      refine sn_invV (y := m_X13_turn) (pc := 64) ca_11 (av := [vI (7 : Int32)]) (o := p0) (st := []) dX13_turn_64 lk_X13_461 im_X13_denied se_X13_denied rfl rfl rfl rfl ⟨by decide, by decide⟩ (c_X13_denied cx.1 p0 (7 : Int32)) (fun r7 => ?_)
      refine sn_goto (y := m_X13_turn) (pc := 67) (tgt := 76) dX13_turn_67 (by decide) ?_
      exact sn_zreturn rfl dX13_turn_76
    refine sn_aload_n (y := m_X13_turn) (pc := 30) dX13_turn_30 rfl ?_
    refine sn_iconst (y := m_X13_turn) (pc := 31) dX13_turn_31 kc_iconst_2 ?_
    refine sn_invV (y := m_X13_turn) (pc := 32) ca_11 (av := [vI (2 : Int32)]) (o := p0) (st := []) dX13_turn_32 lk_X13_461 im_X13_denied se_X13_denied rfl rfl rfl rfl ⟨by decide, by decide⟩ (c_X13_denied cx.1 p0 (2 : Int32)) (fun r8 => ?_)
    exact sn_zreturn rfl dX13_turn_35
  refine sn_aload_n (y := m_X13_turn) (pc := 13) dX13_turn_13 rfl ?_
  refine sn_iconst (y := m_X13_turn) (pc := 14) dX13_turn_14 kc_iconst_1 ?_
  refine sn_invV (y := m_X13_turn) (pc := 15) ca_11 (av := [vI (1 : Int32)]) (o := p0) (st := []) dX13_turn_15 lk_X13_461 im_X13_denied se_X13_denied rfl rfl rfl rfl ⟨by decide, by decide⟩ (c_X13_denied cx.1 p0 (1 : Int32)) (fun r9 => ?_)
  exact sn_zreturn rfl dX13_turn_18
set_option maxRecDepth 100000 in
theorem c_X13_turn (g : Gl) (p0 : (Option Nat)) (p1 : Int32) (p2 : Int32) : Cn g m_X13_turn eI [vA p0, vI p1, vI p2] (mCk 11 p0 (f_X13_turn p0 p1 p2)) := cn_of_sn (by decide +kernel) rfl (fun r => ⟨r, rfl⟩) rfl (fun _ _ => sn_ck (s_X13_turn p0 p1 p2))
/-! X13_size -/
def f_X13_size_j94 (k37 : Int32 → Mo Int64) (x0 : (Option Nat)) (x2 : Int32) (x3 : Int32) : Mo Int64 :=
  (if ¬ x3 = 0 then mBd (mCk 11 x0 (f_X13_refused x0 (7 : Int32))) (fun r11 => mRt (-9223372036854775808 : Int64)) else mBd (mCk 11 x0 (f_X13_isHuge x0 (2 : Int32))) (fun r12 => (if ¬ r12 = 0 then mBd (mCk 11 x0 (f_X13_refused x0 (7 : Int32))) (fun r13 => mRt (-9223372036854775808 : Int64)) else k37 (x2 + 1))))
set_option maxRecDepth 100000 in
theorem s_X13_size_j94 {cx : CX} {k37 : Int32 → Mo Int64} (x0 : (Option Nat)) (x2 : Int32) (x3 : Int32) (hk37 : ∀ (z2 : Int32), Sn cx m_X13_size eJ 37 [(2, vI z2), (0, vA x0)] [] (k37 z2)) : Sn cx m_X13_size eJ 94 [(0, vA x0), (2, vI x2), (3, vI x3)] [] (f_X13_size_j94 k37 x0 x2 x3) := by
  refine sn_iload_n (y := m_X13_size) (pc := 94) dX13_size_94 rfl ?_
  refine sn_if_ne (y := m_X13_size) (pc := 95) (tgt := 109) dX13_size_95 (by decide) (fun _ => ?_) (fun _ => ?_)
  · refine sn_aload_n (y := m_X13_size) (pc := 109) dX13_size_109 rfl ?_
    refine sn_bipush (y := m_X13_size) (pc := 110) dX13_size_110 kc_bipush_7 ?_
    refine sn_invV (y := m_X13_size) (pc := 112) ca_11 (av := [vI (7 : Int32)]) (o := x0) (st := []) dX13_size_112 lk_X13_52 im_X13_refused se_X13_refused rfl rfl rfl rfl ⟨by decide, by decide⟩ (c_X13_refused cx.1 x0 (7 : Int32)) (fun r11 => ?_)
    refine sn_pop (y := m_X13_size) (pc := 115) rfl dX13_size_115 ?_
    refine sn_ldcJ (y := m_X13_size) (pc := 116) kj_X13_479 dX13_size_116 ?_
    exact sn_lreturn rfl dX13_size_119
  refine sn_aload_n (y := m_X13_size) (pc := 98) dX13_size_98 rfl ?_
  refine sn_iconst (y := m_X13_size) (pc := 99) dX13_size_99 kc_iconst_2 ?_
  refine sn_invV (y := m_X13_size) (pc := 100) ca_11 (av := [vI (2 : Int32)]) (o := x0) (st := []) dX13_size_100 lk_X13_290 im_X13_isHuge se_X13_isHuge rfl rfl rfl rfl ⟨by decide, by decide⟩ (c_X13_isHuge cx.1 x0 (2 : Int32)) (fun r12 => ?_)
  refine sn_if_ne (y := m_X13_size) (pc := 103) (tgt := 109) dX13_size_103 (by decide) (fun _ => ?_) (fun _ => ?_)
  · refine sn_aload_n (y := m_X13_size) (pc := 109) dX13_size_109 rfl ?_
    refine sn_bipush (y := m_X13_size) (pc := 110) dX13_size_110 kc_bipush_7 ?_
    refine sn_invV (y := m_X13_size) (pc := 112) ca_11 (av := [vI (7 : Int32)]) (o := x0) (st := []) dX13_size_112 lk_X13_52 im_X13_refused se_X13_refused rfl rfl rfl rfl ⟨by decide, by decide⟩ (c_X13_refused cx.1 x0 (7 : Int32)) (fun r13 => ?_)
    refine sn_pop (y := m_X13_size) (pc := 115) rfl dX13_size_115 ?_
    refine sn_ldcJ (y := m_X13_size) (pc := 116) kj_X13_479 dX13_size_116 ?_
    exact sn_lreturn rfl dX13_size_119
  refine sn_goto (y := m_X13_size) (pc := 106) (tgt := 120) dX13_size_106 (by decide) ?_
  refine sn_iinc (y := m_X13_size) (pc := 120) (v := x2 + 1) dX13_size_120 rfl (by rfl) rfl ?_
  refine sn_goto (y := m_X13_size) (pc := 123) (tgt := 37) dX13_size_123 (by decide) ?_
  exact sn_sub rfl (hk37 (x2 + 1))
def f_X13_size_b37 (x0 : (Option Nat)) (k37 : Int32 → Mo Int64) (x2 : Int32) : Mo Int64 :=
  mBd (mCk 11 x0 (f_X13_chosen x0)) (fun r2 => mBd (mGetI 10 1 r2) (fun r3 => (if x2 ≥ r3 then mBd (mGetA 11 5 x0) (fun r4 => mBd (mLdJ r4 (24 : Int32)) (fun r5 => mBd (mCk 11 x0 (f_X13_goodLong x0 r5)) (fun r6 => mRt r6))) else mBd (mCk 11 x0 (f_X13_chosen x0)) (fun r7 => mBd (mCk 10 r7 (f_X12_isUnit r7 x2)) (fun r8 => (if ¬ r8 = 0 then mBd (mCk 11 x0 (f_X13_chosen x0)) (fun r9 => mBd (mCk 11 x0 (f_X13_turned x0 r9 (0 : Int32) x2 (1 : Int32))) (fun _ => mBd (mCk 11 x0 (f_X13_isHuge x0 (1 : Int32))) (fun r10 => (if ¬ r10 = 0 then f_X13_size_j94 k37 x0 x2 r10 else mBd (mCk 11 x0 (f_X13_chosen x0)) (fun r14 => mBd (mCk 11 x0 (f_X13_multiply x0 r14 (2 : Int32) (1 : Int32) (2 : Int32))) (fun _ => f_X13_size_j94 k37 x0 x2 r10)))))) else k37 (x2 + 1)))))))
def f_X13_size_l37 (x0 : (Option Nat)) : Int32 → Mo Int64 := lq1 (f_X13_size_b37 x0) fuel
set_option maxRecDepth 100000 in
theorem s_X13_size_b37 {cx : CX} (x0 : (Option Nat)) {k37 : Int32 → Mo Int64} (hk37 : ∀ (z2 : Int32), Sn cx m_X13_size eJ 37 [(2, vI z2), (0, vA x0)] [] (k37 z2)) (x2 : Int32) : Sn cx m_X13_size eJ 37 [(2, vI x2), (0, vA x0)] [] (f_X13_size_b37 x0 k37 x2) := by
  refine sn_iload_n (y := m_X13_size) (pc := 37) dX13_size_37 rfl ?_
  refine sn_aload_n (y := m_X13_size) (pc := 38) dX13_size_38 rfl ?_
  refine sn_invV (y := m_X13_size) (pc := 39) ca_11 (av := []) (o := x0) (st := [vI x2]) dX13_size_39 lk_X13_467 im_X13_chosen se_X13_chosen rfl rfl rfl rfl ⟨by decide, by decide⟩ (c_X13_chosen cx.1 x0) (fun r2 => ?_)
  refine sn_getI (y := m_X13_size) (pc := 42) ca_10 rfl fk_X13_59 (fun _ _ _ => rfl) dX13_size_42 (fun r3 => ?_)
  refine sn_icmp_ge (y := m_X13_size) (pc := 45) (tgt := 126) dX13_size_45 (by decide) (fun _ => ?_) (fun _ => ?_)
  · refine sn_aload_n (y := m_X13_size) (pc := 126) dX13_size_126 rfl ?_
    refine sn_aload_n (y := m_X13_size) (pc := 127) dX13_size_127 rfl ?_
    refine sn_getA (y := m_X13_size) (pc := 128) ca_11 rfl fk_X13_13 (fun _ _ _ => rfl) dX13_size_128 (fun r4 => ?_)
    refine sn_bipush (y := m_X13_size) (pc := 131) dX13_size_131 kc_bipush_24 ?_
    refine sn_laload (y := m_X13_size) (pc := 133) dX13_size_133 (fun r5 => ?_)
    refine sn_invV (y := m_X13_size) (pc := 134) ca_11 (av := [vJ r5]) (o := x0) (st := []) dX13_size_134 lk_X13_422 im_X13_goodLong se_X13_goodLong rfl rfl rfl rfl ⟨by decide, by decide⟩ (c_X13_goodLong cx.1 x0 r5) (fun r6 => ?_)
    exact sn_lreturn rfl dX13_size_137
  refine sn_aload_n (y := m_X13_size) (pc := 48) dX13_size_48 rfl ?_
  refine sn_invV (y := m_X13_size) (pc := 49) ca_11 (av := []) (o := x0) (st := []) dX13_size_49 lk_X13_467 im_X13_chosen se_X13_chosen rfl rfl rfl rfl ⟨by decide, by decide⟩ (c_X13_chosen cx.1 x0) (fun r7 => ?_)
  refine sn_iload_n (y := m_X13_size) (pc := 52) dX13_size_52 rfl ?_
  refine sn_invV (y := m_X13_size) (pc := 53) ca_10 (av := [vI x2]) (o := r7) (st := []) dX13_size_53 lk_X13_347 im_X12_isUnit se_X12_isUnit rfl rfl rfl rfl ⟨by decide, by decide⟩ (c_X12_isUnit cx.1 r7 x2) (fun r8 => ?_)
  refine sn_if_ne (y := m_X13_size) (pc := 56) (tgt := 62) dX13_size_56 (by decide) (fun _ => ?_) (fun _ => ?_)
  · refine sn_aload_n (y := m_X13_size) (pc := 62) dX13_size_62 rfl ?_
    refine sn_aload_n (y := m_X13_size) (pc := 63) dX13_size_63 rfl ?_
    refine sn_invV (y := m_X13_size) (pc := 64) ca_11 (av := []) (o := x0) (st := [vA x0]) dX13_size_64 lk_X13_467 im_X13_chosen se_X13_chosen rfl rfl rfl rfl ⟨by decide, by decide⟩ (c_X13_chosen cx.1 x0) (fun r9 => ?_)
    refine sn_iconst (y := m_X13_size) (pc := 67) dX13_size_67 kc_iconst_0 ?_
    refine sn_iload_n (y := m_X13_size) (pc := 68) dX13_size_68 rfl ?_
    refine sn_iconst (y := m_X13_size) (pc := 69) dX13_size_69 kc_iconst_1 ?_
    refine sn_invV (y := m_X13_size) (pc := 70) ca_11 (av := [vA r9, vI (0 : Int32), vI x2, vI (1 : Int32)]) (o := x0) (st := []) dX13_size_70 lk_X13_359 im_X13_turned se_X13_turned rfl rfl rfl rfl ⟨by decide, by decide⟩ (c_X13_turned cx.1 x0 r9 (0 : Int32) x2 (1 : Int32)) (fun _ => ?_)
    refine sn_aload_n (y := m_X13_size) (pc := 73) dX13_size_73 rfl ?_
    refine sn_iconst (y := m_X13_size) (pc := 74) dX13_size_74 kc_iconst_1 ?_
    refine sn_invV (y := m_X13_size) (pc := 75) ca_11 (av := [vI (1 : Int32)]) (o := x0) (st := []) dX13_size_75 lk_X13_290 im_X13_isHuge se_X13_isHuge rfl rfl rfl rfl ⟨by decide, by decide⟩ (c_X13_isHuge cx.1 x0 (1 : Int32)) (fun r10 => ?_)
    refine sn_istore_n (y := m_X13_size) (pc := 78) dX13_size_78 rfl ?_
    refine sn_iload_n (y := m_X13_size) (pc := 79) dX13_size_79 rfl ?_
    refine sn_if_ne (y := m_X13_size) (pc := 80) (tgt := 94) dX13_size_80 (by decide) (fun _ => ?_) (fun _ => ?_)
    · exact sn_sub rfl (s_X13_size_j94 x0 x2 r10 hk37)
    refine sn_aload_n (y := m_X13_size) (pc := 83) dX13_size_83 rfl ?_
    refine sn_aload_n (y := m_X13_size) (pc := 84) dX13_size_84 rfl ?_
    refine sn_invV (y := m_X13_size) (pc := 85) ca_11 (av := []) (o := x0) (st := [vA x0]) dX13_size_85 lk_X13_467 im_X13_chosen se_X13_chosen rfl rfl rfl rfl ⟨by decide, by decide⟩ (c_X13_chosen cx.1 x0) (fun r14 => ?_)
    refine sn_iconst (y := m_X13_size) (pc := 88) dX13_size_88 kc_iconst_2 ?_
    refine sn_iconst (y := m_X13_size) (pc := 89) dX13_size_89 kc_iconst_1 ?_
    refine sn_iconst (y := m_X13_size) (pc := 90) dX13_size_90 kc_iconst_2 ?_
    refine sn_invV (y := m_X13_size) (pc := 91) ca_11 (av := [vA r14, vI (2 : Int32), vI (1 : Int32), vI (2 : Int32)]) (o := x0) (st := []) dX13_size_91 lk_X13_334 im_X13_multiply se_X13_multiply rfl rfl rfl rfl ⟨by decide, by decide⟩ (c_X13_multiply cx.1 x0 r14 (2 : Int32) (1 : Int32) (2 : Int32)) (fun _ => ?_)
    exact sn_sub rfl (s_X13_size_j94 x0 x2 r10 hk37)
  refine sn_goto (y := m_X13_size) (pc := 59) (tgt := 120) dX13_size_59 (by decide) ?_
  refine sn_iinc (y := m_X13_size) (pc := 120) (v := x2 + 1) dX13_size_120 rfl (by rfl) rfl ?_
  refine sn_goto (y := m_X13_size) (pc := 123) (tgt := 37) dX13_size_123 (by decide) ?_
  exact sn_sub rfl (hk37 (x2 + 1))
set_option maxRecDepth 100000 in
theorem s_X13_size_l37 {cx : CX} (x0 : (Option Nat)) (x2 : Int32) : Sn cx m_X13_size eJ 37 [(2, vI x2), (0, vA x0)] [] (f_X13_size_l37 x0 x2) :=
  sn_lq1 (L := fun x2 => [(2, vI x2), (0, vA x0)]) (fun k hk x2 => s_X13_size_b37 x0 hk x2) fuel x2
def f_X13_size (p0 : (Option Nat)) (p1 : Int32) : Mo Int64 :=
  mBd (mPutI 11 0 p0 (0 : Int32)) (fun _ => mBd (mCk 11 p0 (f_X13_isRegister p0 p1)) (fun r1 => (if ¬ r1 = 0 then mBd (mCk 11 p0 (f_X13_loads p0 p1 (0 : Int32))) (fun _ => mBd (mCk 11 p0 (f_X13_wholeRow p0 (2 : Int32) (1 : Int64))) (fun _ => f_X13_size_l37 p0 (1 : Int32))) else mBd (mCk 11 p0 (f_X13_refused p0 (1 : Int32))) (fun r15 => mRt (-9223372036854775808 : Int64)))))
set_option maxRecDepth 100000 in
theorem s_X13_size {cx : CX} (p0 : (Option Nat)) (p1 : Int32) : Sn cx m_X13_size eJ 0 [(0, vA p0), (1, vI p1)] [] (f_X13_size p0 p1) := by
  refine sn_aload_n (y := m_X13_size) (pc := 0) dX13_size_0 rfl ?_
  refine sn_iconst (y := m_X13_size) (pc := 1) dX13_size_1 kc_iconst_0 ?_
  refine sn_putI (y := m_X13_size) (pc := 2) ca_11 rfl fk_X13_46 (Or.inl rfl) rfl dX13_size_2 ?_
  refine sn_aload_n (y := m_X13_size) (pc := 5) dX13_size_5 rfl ?_
  refine sn_iload_n (y := m_X13_size) (pc := 6) dX13_size_6 rfl ?_
  refine sn_invV (y := m_X13_size) (pc := 7) ca_11 (av := [vI p1]) (o := p0) (st := []) dX13_size_7 lk_X13_464 im_X13_isRegister se_X13_isRegister rfl rfl rfl rfl ⟨by decide, by decide⟩ (c_X13_isRegister cx.1 p0 p1) (fun r1 => ?_)
  refine sn_if_ne (y := m_X13_size) (pc := 10) (tgt := 23) dX13_size_10 (by decide) (fun _ => ?_) (fun _ => ?_)
  · refine sn_aload_n (y := m_X13_size) (pc := 23) dX13_size_23 rfl ?_
    refine sn_iload_n (y := m_X13_size) (pc := 24) dX13_size_24 rfl ?_
    refine sn_iconst (y := m_X13_size) (pc := 25) dX13_size_25 kc_iconst_0 ?_
    refine sn_invV (y := m_X13_size) (pc := 26) ca_11 (av := [vI p1, vI (0 : Int32)]) (o := p0) (st := []) dX13_size_26 lk_X13_474 im_X13_loads se_X13_loads rfl rfl rfl rfl ⟨by decide, by decide⟩ (c_X13_loads cx.1 p0 p1 (0 : Int32)) (fun _ => ?_)
    refine sn_aload_n (y := m_X13_size) (pc := 29) dX13_size_29 rfl ?_
    refine sn_iconst (y := m_X13_size) (pc := 30) dX13_size_30 kc_iconst_2 ?_
    refine sn_lconst (y := m_X13_size) (pc := 31) dX13_size_31 kc_lconst_1 ?_
    refine sn_invV (y := m_X13_size) (pc := 32) ca_11 (av := [vI (2 : Int32), vJ (1 : Int64)]) (o := p0) (st := []) dX13_size_32 lk_X13_297 im_X13_wholeRow se_X13_wholeRow rfl rfl rfl rfl ⟨by decide, by decide⟩ (c_X13_wholeRow cx.1 p0 (2 : Int32) (1 : Int64)) (fun _ => ?_)
    refine sn_iconst (y := m_X13_size) (pc := 35) dX13_size_35 kc_iconst_1 ?_
    refine sn_istore_n (y := m_X13_size) (pc := 36) dX13_size_36 rfl ?_
    exact sn_sub rfl (s_X13_size_l37 p0 (1 : Int32))
  refine sn_aload_n (y := m_X13_size) (pc := 13) dX13_size_13 rfl ?_
  refine sn_iconst (y := m_X13_size) (pc := 14) dX13_size_14 kc_iconst_1 ?_
  refine sn_invV (y := m_X13_size) (pc := 15) ca_11 (av := [vI (1 : Int32)]) (o := p0) (st := []) dX13_size_15 lk_X13_52 im_X13_refused se_X13_refused rfl rfl rfl rfl ⟨by decide, by decide⟩ (c_X13_refused cx.1 p0 (1 : Int32)) (fun r15 => ?_)
  refine sn_pop (y := m_X13_size) (pc := 18) rfl dX13_size_18 ?_
  refine sn_ldcJ (y := m_X13_size) (pc := 19) kj_X13_479 dX13_size_19 ?_
  exact sn_lreturn rfl dX13_size_22
set_option maxRecDepth 100000 in
theorem c_X13_size (g : Gl) (p0 : (Option Nat)) (p1 : Int32) : Cn g m_X13_size eJ [vA p0, vI p1] (mCk 11 p0 (f_X13_size p0 p1)) := cn_of_sn (by decide +kernel) rfl (fun r => ⟨r, rfl⟩) rfl (fun _ _ => sn_ck (s_X13_size p0 p1))
/-! X13_undo -/
def f_X13_undo (p0 : (Option Nat)) : Mo Int32 :=
  mBd (mPutI 11 0 p0 (0 : Int32)) (fun _ => mBd (mGetI 11 28 p0) (fun r1 => (if ¬ r1 = 0 then mBd (mGetA 11 26 p0) (fun r2 => mBd (mGetI 11 29 p0) (fun r3 => mBd (mCk 11 p0 (f_X13_keeps p0 r2 r3)) (fun _ => mBd (mGetI 11 29 p0) (fun r4 => mBd (mPutI 11 29 p0 (r4 + (1 : Int32))) (fun _ => mBd (mGetI 11 28 p0) (fun r5 => mBd (mPutI 11 28 p0 (r5 - (1 : Int32))) (fun _ => mBd (mGetA 11 25 p0) (fun r6 => mBd (mGetI 11 28 p0) (fun r7 => mBd (mCk 11 p0 (f_X13_takes p0 r6 r7)) (fun _ => mBd (mCk 11 p0 (f_X13_granted p0)) (fun r8 => mRq (r8 = 0 ∨ r8 = 1) (mRt r8)))))))))))) else mBd (mCk 11 p0 (f_X13_denied p0 (6 : Int32))) (fun r9 => mRq (r9 = 0 ∨ r9 = 1) (mRt r9)))))
set_option maxRecDepth 100000 in
theorem s_X13_undo {cx : CX} (p0 : (Option Nat)) : Sn cx m_X13_undo eI 0 [(0, vA p0)] [] (f_X13_undo p0) := by
  refine sn_aload_n (y := m_X13_undo) (pc := 0) dX13_undo_0 rfl ?_
  refine sn_iconst (y := m_X13_undo) (pc := 1) dX13_undo_1 kc_iconst_0 ?_
  refine sn_putI (y := m_X13_undo) (pc := 2) ca_11 rfl fk_X13_46 (Or.inl rfl) rfl dX13_undo_2 ?_
  refine sn_aload_n (y := m_X13_undo) (pc := 5) dX13_undo_5 rfl ?_
  refine sn_getI (y := m_X13_undo) (pc := 6) ca_11 rfl fk_X13_372 (fun _ _ _ => rfl) dX13_undo_6 (fun r1 => ?_)
  refine sn_if_ne (y := m_X13_undo) (pc := 9) (tgt := 19) dX13_undo_9 (by decide) (fun _ => ?_) (fun _ => ?_)
  · refine sn_aload_n (y := m_X13_undo) (pc := 19) dX13_undo_19 rfl ?_
    refine sn_aload_n (y := m_X13_undo) (pc := 20) dX13_undo_20 rfl ?_
    refine sn_getA (y := m_X13_undo) (pc := 21) ca_11 rfl fk_X13_40 (fun _ _ _ => rfl) dX13_undo_21 (fun r2 => ?_)
    refine sn_aload_n (y := m_X13_undo) (pc := 24) dX13_undo_24 rfl ?_
    refine sn_getI (y := m_X13_undo) (pc := 25) ca_11 rfl fk_X13_375 (fun _ _ _ => rfl) dX13_undo_25 (fun r3 => ?_)
    refine sn_invV (y := m_X13_undo) (pc := 28) ca_11 (av := [vA r2, vI r3]) (o := p0) (st := []) dX13_undo_28 lk_X13_451 im_X13_keeps se_X13_keeps rfl rfl rfl rfl ⟨by decide, by decide⟩ (c_X13_keeps cx.1 p0 r2 r3) (fun _ => ?_)
    refine sn_aload_n (y := m_X13_undo) (pc := 31) dX13_undo_31 rfl ?_
    refine sn_dup (y := m_X13_undo) (pc := 32) rfl dX13_undo_32 ?_
    refine sn_getI (y := m_X13_undo) (pc := 33) ca_11 rfl fk_X13_375 (fun _ _ _ => rfl) dX13_undo_33 (fun r4 => ?_)
    refine sn_iconst (y := m_X13_undo) (pc := 36) dX13_undo_36 kc_iconst_1 ?_
    refine sn_iadd (y := m_X13_undo) (pc := 37) dX13_undo_37 ?_
    refine sn_putI (y := m_X13_undo) (pc := 38) ca_11 rfl fk_X13_375 (Or.inl rfl) rfl dX13_undo_38 ?_
    refine sn_aload_n (y := m_X13_undo) (pc := 41) dX13_undo_41 rfl ?_
    refine sn_dup (y := m_X13_undo) (pc := 42) rfl dX13_undo_42 ?_
    refine sn_getI (y := m_X13_undo) (pc := 43) ca_11 rfl fk_X13_372 (fun _ _ _ => rfl) dX13_undo_43 (fun r5 => ?_)
    refine sn_iconst (y := m_X13_undo) (pc := 46) dX13_undo_46 kc_iconst_1 ?_
    refine sn_isub (y := m_X13_undo) (pc := 47) dX13_undo_47 ?_
    refine sn_putI (y := m_X13_undo) (pc := 48) ca_11 rfl fk_X13_372 (Or.inl rfl) rfl dX13_undo_48 ?_
    refine sn_aload_n (y := m_X13_undo) (pc := 51) dX13_undo_51 rfl ?_
    refine sn_aload_n (y := m_X13_undo) (pc := 52) dX13_undo_52 rfl ?_
    refine sn_getA (y := m_X13_undo) (pc := 53) ca_11 rfl fk_X13_37 (fun _ _ _ => rfl) dX13_undo_53 (fun r6 => ?_)
    refine sn_aload_n (y := m_X13_undo) (pc := 56) dX13_undo_56 rfl ?_
    refine sn_getI (y := m_X13_undo) (pc := 57) ca_11 rfl fk_X13_372 (fun _ _ _ => rfl) dX13_undo_57 (fun r7 => ?_)
    refine sn_invV (y := m_X13_undo) (pc := 60) ca_11 (av := [vA r6, vI r7]) (o := p0) (st := []) dX13_undo_60 lk_X13_481 im_X13_takes se_X13_takes rfl rfl rfl rfl ⟨by decide, by decide⟩ (c_X13_takes cx.1 p0 r6 r7) (fun _ => ?_)
    refine sn_aload_n (y := m_X13_undo) (pc := 63) dX13_undo_63 rfl ?_
    refine sn_invV (y := m_X13_undo) (pc := 64) ca_11 (av := []) (o := p0) (st := []) dX13_undo_64 lk_X13_455 im_X13_granted se_X13_granted rfl rfl rfl rfl ⟨by decide, by decide⟩ (c_X13_granted cx.1 p0) (fun r8 => ?_)
    exact sn_zreturn rfl dX13_undo_67
  refine sn_aload_n (y := m_X13_undo) (pc := 12) dX13_undo_12 rfl ?_
  refine sn_bipush (y := m_X13_undo) (pc := 13) dX13_undo_13 kc_bipush_6 ?_
  refine sn_invV (y := m_X13_undo) (pc := 15) ca_11 (av := [vI (6 : Int32)]) (o := p0) (st := []) dX13_undo_15 lk_X13_461 im_X13_denied se_X13_denied rfl rfl rfl rfl ⟨by decide, by decide⟩ (c_X13_denied cx.1 p0 (6 : Int32)) (fun r9 => ?_)
  exact sn_zreturn rfl dX13_undo_18
set_option maxRecDepth 100000 in
theorem c_X13_undo (g : Gl) (p0 : (Option Nat)) : Cn g m_X13_undo eI [vA p0] (mCk 11 p0 (f_X13_undo p0)) := cn_of_sn (by decide +kernel) rfl (fun r => ⟨r, rfl⟩) rfl (fun _ _ => sn_ck (s_X13_undo p0))
/-! X13_redo -/
def f_X13_redo (p0 : (Option Nat)) : Mo Int32 :=
  mBd (mPutI 11 0 p0 (0 : Int32)) (fun _ => mBd (mGetI 11 29 p0) (fun r1 => (if ¬ r1 = 0 then mBd (mGetA 11 25 p0) (fun r2 => mBd (mGetI 11 28 p0) (fun r3 => mBd (mCk 11 p0 (f_X13_keeps p0 r2 r3)) (fun _ => mBd (mGetI 11 28 p0) (fun r4 => mBd (mPutI 11 28 p0 (r4 + (1 : Int32))) (fun _ => mBd (mGetI 11 29 p0) (fun r5 => mBd (mPutI 11 29 p0 (r5 - (1 : Int32))) (fun _ => mBd (mGetA 11 26 p0) (fun r6 => mBd (mGetI 11 29 p0) (fun r7 => mBd (mCk 11 p0 (f_X13_takes p0 r6 r7)) (fun _ => mBd (mCk 11 p0 (f_X13_granted p0)) (fun r8 => mRq (r8 = 0 ∨ r8 = 1) (mRt r8)))))))))))) else mBd (mCk 11 p0 (f_X13_denied p0 (6 : Int32))) (fun r9 => mRq (r9 = 0 ∨ r9 = 1) (mRt r9)))))
set_option maxRecDepth 100000 in
theorem s_X13_redo {cx : CX} (p0 : (Option Nat)) : Sn cx m_X13_redo eI 0 [(0, vA p0)] [] (f_X13_redo p0) := by
  refine sn_aload_n (y := m_X13_redo) (pc := 0) dX13_redo_0 rfl ?_
  refine sn_iconst (y := m_X13_redo) (pc := 1) dX13_redo_1 kc_iconst_0 ?_
  refine sn_putI (y := m_X13_redo) (pc := 2) ca_11 rfl fk_X13_46 (Or.inl rfl) rfl dX13_redo_2 ?_
  refine sn_aload_n (y := m_X13_redo) (pc := 5) dX13_redo_5 rfl ?_
  refine sn_getI (y := m_X13_redo) (pc := 6) ca_11 rfl fk_X13_375 (fun _ _ _ => rfl) dX13_redo_6 (fun r1 => ?_)
  refine sn_if_ne (y := m_X13_redo) (pc := 9) (tgt := 19) dX13_redo_9 (by decide) (fun _ => ?_) (fun _ => ?_)
  · refine sn_aload_n (y := m_X13_redo) (pc := 19) dX13_redo_19 rfl ?_
    refine sn_aload_n (y := m_X13_redo) (pc := 20) dX13_redo_20 rfl ?_
    refine sn_getA (y := m_X13_redo) (pc := 21) ca_11 rfl fk_X13_37 (fun _ _ _ => rfl) dX13_redo_21 (fun r2 => ?_)
    refine sn_aload_n (y := m_X13_redo) (pc := 24) dX13_redo_24 rfl ?_
    refine sn_getI (y := m_X13_redo) (pc := 25) ca_11 rfl fk_X13_372 (fun _ _ _ => rfl) dX13_redo_25 (fun r3 => ?_)
    refine sn_invV (y := m_X13_redo) (pc := 28) ca_11 (av := [vA r2, vI r3]) (o := p0) (st := []) dX13_redo_28 lk_X13_451 im_X13_keeps se_X13_keeps rfl rfl rfl rfl ⟨by decide, by decide⟩ (c_X13_keeps cx.1 p0 r2 r3) (fun _ => ?_)
    refine sn_aload_n (y := m_X13_redo) (pc := 31) dX13_redo_31 rfl ?_
    refine sn_dup (y := m_X13_redo) (pc := 32) rfl dX13_redo_32 ?_
    refine sn_getI (y := m_X13_redo) (pc := 33) ca_11 rfl fk_X13_372 (fun _ _ _ => rfl) dX13_redo_33 (fun r4 => ?_)
    refine sn_iconst (y := m_X13_redo) (pc := 36) dX13_redo_36 kc_iconst_1 ?_
    refine sn_iadd (y := m_X13_redo) (pc := 37) dX13_redo_37 ?_
    refine sn_putI (y := m_X13_redo) (pc := 38) ca_11 rfl fk_X13_372 (Or.inl rfl) rfl dX13_redo_38 ?_
    refine sn_aload_n (y := m_X13_redo) (pc := 41) dX13_redo_41 rfl ?_
    refine sn_dup (y := m_X13_redo) (pc := 42) rfl dX13_redo_42 ?_
    refine sn_getI (y := m_X13_redo) (pc := 43) ca_11 rfl fk_X13_375 (fun _ _ _ => rfl) dX13_redo_43 (fun r5 => ?_)
    refine sn_iconst (y := m_X13_redo) (pc := 46) dX13_redo_46 kc_iconst_1 ?_
    refine sn_isub (y := m_X13_redo) (pc := 47) dX13_redo_47 ?_
    refine sn_putI (y := m_X13_redo) (pc := 48) ca_11 rfl fk_X13_375 (Or.inl rfl) rfl dX13_redo_48 ?_
    refine sn_aload_n (y := m_X13_redo) (pc := 51) dX13_redo_51 rfl ?_
    refine sn_aload_n (y := m_X13_redo) (pc := 52) dX13_redo_52 rfl ?_
    refine sn_getA (y := m_X13_redo) (pc := 53) ca_11 rfl fk_X13_40 (fun _ _ _ => rfl) dX13_redo_53 (fun r6 => ?_)
    refine sn_aload_n (y := m_X13_redo) (pc := 56) dX13_redo_56 rfl ?_
    refine sn_getI (y := m_X13_redo) (pc := 57) ca_11 rfl fk_X13_375 (fun _ _ _ => rfl) dX13_redo_57 (fun r7 => ?_)
    refine sn_invV (y := m_X13_redo) (pc := 60) ca_11 (av := [vA r6, vI r7]) (o := p0) (st := []) dX13_redo_60 lk_X13_481 im_X13_takes se_X13_takes rfl rfl rfl rfl ⟨by decide, by decide⟩ (c_X13_takes cx.1 p0 r6 r7) (fun _ => ?_)
    refine sn_aload_n (y := m_X13_redo) (pc := 63) dX13_redo_63 rfl ?_
    refine sn_invV (y := m_X13_redo) (pc := 64) ca_11 (av := []) (o := p0) (st := []) dX13_redo_64 lk_X13_455 im_X13_granted se_X13_granted rfl rfl rfl rfl ⟨by decide, by decide⟩ (c_X13_granted cx.1 p0) (fun r8 => ?_)
    exact sn_zreturn rfl dX13_redo_67
  refine sn_aload_n (y := m_X13_redo) (pc := 12) dX13_redo_12 rfl ?_
  refine sn_bipush (y := m_X13_redo) (pc := 13) dX13_redo_13 kc_bipush_6 ?_
  refine sn_invV (y := m_X13_redo) (pc := 15) ca_11 (av := [vI (6 : Int32)]) (o := p0) (st := []) dX13_redo_15 lk_X13_461 im_X13_denied se_X13_denied rfl rfl rfl rfl ⟨by decide, by decide⟩ (c_X13_denied cx.1 p0 (6 : Int32)) (fun r9 => ?_)
  exact sn_zreturn rfl dX13_redo_18
set_option maxRecDepth 100000 in
theorem c_X13_redo (g : Gl) (p0 : (Option Nat)) : Cn g m_X13_redo eI [vA p0] (mCk 11 p0 (f_X13_redo p0)) := cn_of_sn (by decide +kernel) rfl (fun r => ⟨r, rfl⟩) rfl (fun _ _ => sn_ck (s_X13_redo p0))
/-! X13_image -/
def f_X13_image (p0 : (Option Nat)) : Mo Int32 :=
  mBd (mPutI 11 0 p0 (0 : Int32)) (fun _ => mBd (mGetA 11 3 p0) (fun r1 => (if r1 = none then mBd (mCk 11 p0 (f_X13_refused p0 (1 : Int32))) (fun r9 => mRt r9) else mBd (mGetI 11 30 p0) (fun r2 => (if ¬ r2 = (4 : Int32) then mBd (mGetA 11 27 p0) (fun r3 => mBd (mGetI 11 30 p0) (fun r4 => mBd (mCk 11 p0 (f_X13_keeps p0 r3 r4)) (fun _ => mBd (mGetI 11 30 p0) (fun r5 => mBd (mPutI 11 30 p0 (r5 + (1 : Int32))) (fun _ => mBd (mGetI 11 30 p0) (fun r6 => mBd (mCk 11 p0 (f_X13_good p0 (r6 - (1 : Int32)))) (fun r7 => mRt r7))))))) else mBd (mCk 11 p0 (f_X13_refused p0 (3 : Int32))) (fun r8 => mRt r8))))))
set_option maxRecDepth 100000 in
theorem s_X13_image {cx : CX} (p0 : (Option Nat)) : Sn cx m_X13_image eI 0 [(0, vA p0)] [] (f_X13_image p0) := by
  refine sn_aload_n (y := m_X13_image) (pc := 0) dX13_image_0 rfl ?_
  refine sn_iconst (y := m_X13_image) (pc := 1) dX13_image_1 kc_iconst_0 ?_
  refine sn_putI (y := m_X13_image) (pc := 2) ca_11 rfl fk_X13_46 (Or.inl rfl) rfl dX13_image_2 ?_
  refine sn_aload_n (y := m_X13_image) (pc := 5) dX13_image_5 rfl ?_
  refine sn_getA (y := m_X13_image) (pc := 6) ca_11 rfl fk_X13_369 (fun _ _ _ => rfl) dX13_image_6 (fun r1 => ?_)
  refine sn_ifnonnull (y := m_X13_image) (pc := 9) (tgt := 18) dX13_image_9 (by decide) ?_ ?_
  · refine sn_aload_n (y := m_X13_image) (pc := 12) dX13_image_12 rfl ?_
    refine sn_iconst (y := m_X13_image) (pc := 13) dX13_image_13 kc_iconst_1 ?_
    refine sn_invV (y := m_X13_image) (pc := 14) ca_11 (av := [vI (1 : Int32)]) (o := p0) (st := []) dX13_image_14 lk_X13_52 im_X13_refused se_X13_refused rfl rfl rfl rfl ⟨by decide, by decide⟩ (c_X13_refused cx.1 p0 (1 : Int32)) (fun r9 => ?_)
    exact sn_ireturn rfl dX13_image_17
  refine sn_aload_n (y := m_X13_image) (pc := 18) dX13_image_18 rfl ?_
  refine sn_getI (y := m_X13_image) (pc := 19) ca_11 rfl fk_X13_378 (fun _ _ _ => rfl) dX13_image_19 (fun r2 => ?_)
  refine sn_iconst (y := m_X13_image) (pc := 22) dX13_image_22 kc_iconst_4 ?_
  refine sn_icmp_ne (y := m_X13_image) (pc := 23) (tgt := 32) dX13_image_23 (by decide) (fun _ => ?_) (fun _ => ?_)
  · refine sn_aload_n (y := m_X13_image) (pc := 32) dX13_image_32 rfl ?_
    refine sn_aload_n (y := m_X13_image) (pc := 33) dX13_image_33 rfl ?_
    refine sn_getA (y := m_X13_image) (pc := 34) ca_11 rfl fk_X13_43 (fun _ _ _ => rfl) dX13_image_34 (fun r3 => ?_)
    refine sn_aload_n (y := m_X13_image) (pc := 37) dX13_image_37 rfl ?_
    refine sn_getI (y := m_X13_image) (pc := 38) ca_11 rfl fk_X13_378 (fun _ _ _ => rfl) dX13_image_38 (fun r4 => ?_)
    refine sn_invV (y := m_X13_image) (pc := 41) ca_11 (av := [vA r3, vI r4]) (o := p0) (st := []) dX13_image_41 lk_X13_451 im_X13_keeps se_X13_keeps rfl rfl rfl rfl ⟨by decide, by decide⟩ (c_X13_keeps cx.1 p0 r3 r4) (fun _ => ?_)
    refine sn_aload_n (y := m_X13_image) (pc := 44) dX13_image_44 rfl ?_
    refine sn_dup (y := m_X13_image) (pc := 45) rfl dX13_image_45 ?_
    refine sn_getI (y := m_X13_image) (pc := 46) ca_11 rfl fk_X13_378 (fun _ _ _ => rfl) dX13_image_46 (fun r5 => ?_)
    refine sn_iconst (y := m_X13_image) (pc := 49) dX13_image_49 kc_iconst_1 ?_
    refine sn_iadd (y := m_X13_image) (pc := 50) dX13_image_50 ?_
    refine sn_putI (y := m_X13_image) (pc := 51) ca_11 rfl fk_X13_378 (Or.inl rfl) rfl dX13_image_51 ?_
    refine sn_aload_n (y := m_X13_image) (pc := 54) dX13_image_54 rfl ?_
    refine sn_aload_n (y := m_X13_image) (pc := 55) dX13_image_55 rfl ?_
    refine sn_getI (y := m_X13_image) (pc := 56) ca_11 rfl fk_X13_378 (fun _ _ _ => rfl) dX13_image_56 (fun r6 => ?_)
    refine sn_iconst (y := m_X13_image) (pc := 59) dX13_image_59 kc_iconst_1 ?_
    refine sn_isub (y := m_X13_image) (pc := 60) dX13_image_60 ?_
    refine sn_invV (y := m_X13_image) (pc := 61) ca_11 (av := [vI (r6 - (1 : Int32))]) (o := p0) (st := []) dX13_image_61 lk_X13_56 im_X13_good se_X13_good rfl rfl rfl rfl ⟨by decide, by decide⟩ (c_X13_good cx.1 p0 (r6 - (1 : Int32))) (fun r7 => ?_)
    exact sn_ireturn rfl dX13_image_64
  refine sn_aload_n (y := m_X13_image) (pc := 26) dX13_image_26 rfl ?_
  refine sn_iconst (y := m_X13_image) (pc := 27) dX13_image_27 kc_iconst_3 ?_
  refine sn_invV (y := m_X13_image) (pc := 28) ca_11 (av := [vI (3 : Int32)]) (o := p0) (st := []) dX13_image_28 lk_X13_52 im_X13_refused se_X13_refused rfl rfl rfl rfl ⟨by decide, by decide⟩ (c_X13_refused cx.1 p0 (3 : Int32)) (fun r8 => ?_)
  exact sn_ireturn rfl dX13_image_31
set_option maxRecDepth 100000 in
theorem c_X13_image (g : Gl) (p0 : (Option Nat)) : Cn g m_X13_image eI [vA p0] (mCk 11 p0 (f_X13_image p0)) := cn_of_sn (by decide +kernel) rfl (fun r => ⟨r, rfl⟩) rfl (fun _ _ => sn_ck (s_X13_image p0))
/-! X13_restore -/
def f_X13_restore (p0 : (Option Nat)) (p1 : Int32) : Mo Int32 :=
  mBd (mPutI 11 0 p0 (0 : Int32)) (fun _ => mBd (mGetA 11 3 p0) (fun r1 => (if r1 = none then mBd (mCk 11 p0 (f_X13_denied p0 (1 : Int32))) (fun r2 => mRq (r2 = 0 ∨ r2 = 1) (mRt r2)) else (if p1 < 0 then mBd (mCk 11 p0 (f_X13_denied p0 (1 : Int32))) (fun r3 => mRq (r3 = 0 ∨ r3 = 1) (mRt r3)) else mBd (mGetI 11 30 p0) (fun r4 => (if p1 < r4 then mBd (mCk 11 p0 (f_X13_acts p0)) (fun r5 => mBd (mGetA 11 27 p0) (fun r6 => mBd (mCk 11 p0 (f_X13_takes p0 r6 p1)) (fun _ => mRt (1 : Int32)))) else mBd (mCk 11 p0 (f_X13_denied p0 (1 : Int32))) (fun r7 => mRq (r7 = 0 ∨ r7 = 1) (mRt r7))))))))
set_option maxRecDepth 100000 in
theorem s_X13_restore {cx : CX} (p0 : (Option Nat)) (p1 : Int32) : Sn cx m_X13_restore eI 0 [(0, vA p0), (1, vI p1)] [] (f_X13_restore p0 p1) := by
  refine sn_aload_n (y := m_X13_restore) (pc := 0) dX13_restore_0 rfl ?_
  refine sn_iconst (y := m_X13_restore) (pc := 1) dX13_restore_1 kc_iconst_0 ?_
  refine sn_putI (y := m_X13_restore) (pc := 2) ca_11 rfl fk_X13_46 (Or.inl rfl) rfl dX13_restore_2 ?_
  refine sn_aload_n (y := m_X13_restore) (pc := 5) dX13_restore_5 rfl ?_
  refine sn_getA (y := m_X13_restore) (pc := 6) ca_11 rfl fk_X13_369 (fun _ _ _ => rfl) dX13_restore_6 (fun r1 => ?_)
  refine sn_ifnull (y := m_X13_restore) (pc := 9) (tgt := 24) dX13_restore_9 (by decide) ?_ ?_
  · refine sn_aload_n (y := m_X13_restore) (pc := 24) dX13_restore_24 rfl ?_
    refine sn_iconst (y := m_X13_restore) (pc := 25) dX13_restore_25 kc_iconst_1 ?_
    refine sn_invV (y := m_X13_restore) (pc := 26) ca_11 (av := [vI (1 : Int32)]) (o := p0) (st := []) dX13_restore_26 lk_X13_461 im_X13_denied se_X13_denied rfl rfl rfl rfl ⟨by decide, by decide⟩ (c_X13_denied cx.1 p0 (1 : Int32)) (fun r2 => ?_)
    exact sn_zreturn rfl dX13_restore_29
  refine sn_iload_n (y := m_X13_restore) (pc := 12) dX13_restore_12 rfl ?_
  refine sn_if_lt (y := m_X13_restore) (pc := 13) (tgt := 24) dX13_restore_13 (by decide) (fun _ => ?_) (fun _ => ?_)
  · refine sn_aload_n (y := m_X13_restore) (pc := 24) dX13_restore_24 rfl ?_
    refine sn_iconst (y := m_X13_restore) (pc := 25) dX13_restore_25 kc_iconst_1 ?_
    refine sn_invV (y := m_X13_restore) (pc := 26) ca_11 (av := [vI (1 : Int32)]) (o := p0) (st := []) dX13_restore_26 lk_X13_461 im_X13_denied se_X13_denied rfl rfl rfl rfl ⟨by decide, by decide⟩ (c_X13_denied cx.1 p0 (1 : Int32)) (fun r3 => ?_)
    exact sn_zreturn rfl dX13_restore_29
  refine sn_iload_n (y := m_X13_restore) (pc := 16) dX13_restore_16 rfl ?_
  refine sn_aload_n (y := m_X13_restore) (pc := 17) dX13_restore_17 rfl ?_
  refine sn_getI (y := m_X13_restore) (pc := 18) ca_11 rfl fk_X13_378 (fun _ _ _ => rfl) dX13_restore_18 (fun r4 => ?_)
  refine sn_icmp_lt (y := m_X13_restore) (pc := 21) (tgt := 30) dX13_restore_21 (by decide) (fun _ => ?_) (fun _ => ?_)
  · refine sn_aload_n (y := m_X13_restore) (pc := 30) dX13_restore_30 rfl ?_
    refine sn_invV (y := m_X13_restore) (pc := 31) ca_11 (av := []) (o := p0) (st := []) dX13_restore_31 lk_X13_458 im_X13_acts se_X13_acts rfl rfl rfl rfl ⟨by decide, by decide⟩ (c_X13_acts cx.1 p0) (fun r5 => ?_)
    refine sn_pop (y := m_X13_restore) (pc := 34) rfl dX13_restore_34 ?_
    refine sn_aload_n (y := m_X13_restore) (pc := 35) dX13_restore_35 rfl ?_
    refine sn_aload_n (y := m_X13_restore) (pc := 36) dX13_restore_36 rfl ?_
    refine sn_getA (y := m_X13_restore) (pc := 37) ca_11 rfl fk_X13_43 (fun _ _ _ => rfl) dX13_restore_37 (fun r6 => ?_)
    refine sn_iload_n (y := m_X13_restore) (pc := 40) dX13_restore_40 rfl ?_
    refine sn_invV (y := m_X13_restore) (pc := 41) ca_11 (av := [vA r6, vI p1]) (o := p0) (st := []) dX13_restore_41 lk_X13_481 im_X13_takes se_X13_takes rfl rfl rfl rfl ⟨by decide, by decide⟩ (c_X13_takes cx.1 p0 r6 p1) (fun _ => ?_)
    refine sn_iconst (y := m_X13_restore) (pc := 44) dX13_restore_44 kc_iconst_1 ?_
    exact sn_zreturnC (by decide) rfl dX13_restore_45
  refine sn_aload_n (y := m_X13_restore) (pc := 24) dX13_restore_24 rfl ?_
  refine sn_iconst (y := m_X13_restore) (pc := 25) dX13_restore_25 kc_iconst_1 ?_
  refine sn_invV (y := m_X13_restore) (pc := 26) ca_11 (av := [vI (1 : Int32)]) (o := p0) (st := []) dX13_restore_26 lk_X13_461 im_X13_denied se_X13_denied rfl rfl rfl rfl ⟨by decide, by decide⟩ (c_X13_denied cx.1 p0 (1 : Int32)) (fun r7 => ?_)
  exact sn_zreturn rfl dX13_restore_29
set_option maxRecDepth 100000 in
theorem c_X13_restore (g : Gl) (p0 : (Option Nat)) (p1 : Int32) : Cn g m_X13_restore eI [vA p0, vI p1] (mCk 11 p0 (f_X13_restore p0 p1)) := cn_of_sn (by decide +kernel) rfl (fun r => ⟨r, rfl⟩) rfl (fun _ _ => sn_ck (s_X13_restore p0 p1))
/-! X13_led -/
def f_X13_led_b10 (x0 : (Option Nat)) (x1 : Int32) (x2 : Int32) (k10 : Int32 → Int32 → Mo Int32) (x3 : Int32) (x4 : Int32) : Mo Int32 :=
  mBd (mCk 11 x0 (f_X13_isField x0 x1)) (fun r1 => (if r1 = 0 then mBd (mPutI 11 0 x0 (1 : Int32)) (fun _ => mRt (0 : Int32)) else mBd (mGetA 11 3 x0) (fun r2 => mBd (mGetA 9 4 r2) (fun r3 => mBd (mLdA 7 r3 x1) (fun r4 => mBd (mGetI 10 0 r4) (fun r5 => (if x4 ≥ r5 then mBd (mPutI 11 0 x0 (1 : Int32)) (fun _ => mRt (0 : Int32)) else mBd (mGetA 11 3 x0) (fun r6 => mBd (mGetA 9 4 r6) (fun r7 => mBd (mLdA 7 r7 x1) (fun r8 => mBd (mGetA 10 4 r8) (fun r9 => mBd (mLdI 1 r9 x4) (fun r10 => mBd (mGetA 11 3 x0) (fun r11 => mBd (mGetA 9 4 r11) (fun r12 => mBd (mLdA 7 r12 x1) (fun r13 => mBd (mGetI 10 1 r13) (fun r14 => mRq (¬ r14 = 0) ((if (irem r10 r14) = 0 then (if ¬ x3 = x2 then k10 (x3 + 1) (x4 + 1) else mRt x4) else k10 x3 (x4 + 1)))))))))))))))))))
def f_X13_led_l10 (x0 : (Option Nat)) (x1 : Int32) (x2 : Int32) : Int32 → Int32 → Mo Int32 := lq2 (f_X13_led_b10 x0 x1 x2) fuel
set_option maxRecDepth 100000 in
theorem s_X13_led_b10 {cx : CX} (x0 : (Option Nat)) (x1 : Int32) (x2 : Int32) {k10 : Int32 → Int32 → Mo Int32} (hk10 : ∀ (z3 : Int32) (z4 : Int32), Sn cx m_X13_led eI 10 [(3, vI z3), (4, vI z4), (0, vA x0), (1, vI x1), (2, vI x2)] [] (k10 z3 z4)) (x3 : Int32) (x4 : Int32) : Sn cx m_X13_led eI 10 [(3, vI x3), (4, vI x4), (0, vA x0), (1, vI x1), (2, vI x2)] [] (f_X13_led_b10 x0 x1 x2 k10 x3 x4) := by
  refine sn_aload_n (y := m_X13_led) (pc := 10) dX13_led_10 rfl ?_
  refine sn_iload_n (y := m_X13_led) (pc := 11) dX13_led_11 rfl ?_
  refine sn_invV (y := m_X13_led) (pc := 12) ca_11 (av := [vI x1]) (o := x0) (st := []) dX13_led_12 lk_X13_381 im_X13_isField se_X13_isField rfl rfl rfl rfl ⟨by decide, by decide⟩ (c_X13_isField cx.1 x0 x1) (fun r1 => ?_)
  refine sn_if_eq (y := m_X13_led) (pc := 15) (tgt := 86) dX13_led_15 (by decide) (fun _ => ?_) (fun _ => ?_)
  · refine sn_aload_n (y := m_X13_led) (pc := 86) dX13_led_86 rfl ?_
    refine sn_iconst (y := m_X13_led) (pc := 87) dX13_led_87 kc_iconst_1 ?_
    refine sn_putI (y := m_X13_led) (pc := 88) ca_11 rfl fk_X13_46 (Or.inl rfl) rfl dX13_led_88 ?_
    refine sn_iconst (y := m_X13_led) (pc := 91) dX13_led_91 kc_iconst_0 ?_
    exact sn_ireturn rfl dX13_led_92
  refine sn_iload (y := m_X13_led) (pc := 18) dX13_led_18 rfl ?_
  refine sn_aload_n (y := m_X13_led) (pc := 20) dX13_led_20 rfl ?_
  refine sn_getA (y := m_X13_led) (pc := 21) ca_11 rfl fk_X13_369 (fun _ _ _ => rfl) dX13_led_21 (fun r2 => ?_)
  refine sn_getA (y := m_X13_led) (pc := 24) ca_9 rfl fk_X13_259 (fun _ _ _ => rfl) dX13_led_24 (fun r3 => ?_)
  refine sn_iload_n (y := m_X13_led) (pc := 27) dX13_led_27 rfl ?_
  refine sn_aaload (y := m_X13_led) (pc := 28) dX13_led_28 (fun r4 => ?_)
  refine sn_getI (y := m_X13_led) (pc := 29) ca_10 rfl fk_X13_81 (fun _ _ _ => rfl) dX13_led_29 (fun r5 => ?_)
  refine sn_icmp_ge (y := m_X13_led) (pc := 32) (tgt := 86) dX13_led_32 (by decide) (fun _ => ?_) (fun _ => ?_)
  · refine sn_aload_n (y := m_X13_led) (pc := 86) dX13_led_86 rfl ?_
    refine sn_iconst (y := m_X13_led) (pc := 87) dX13_led_87 kc_iconst_1 ?_
    refine sn_putI (y := m_X13_led) (pc := 88) ca_11 rfl fk_X13_46 (Or.inl rfl) rfl dX13_led_88 ?_
    refine sn_iconst (y := m_X13_led) (pc := 91) dX13_led_91 kc_iconst_0 ?_
    exact sn_ireturn rfl dX13_led_92
  refine sn_aload_n (y := m_X13_led) (pc := 35) dX13_led_35 rfl ?_
  refine sn_getA (y := m_X13_led) (pc := 36) ca_11 rfl fk_X13_369 (fun _ _ _ => rfl) dX13_led_36 (fun r6 => ?_)
  refine sn_getA (y := m_X13_led) (pc := 39) ca_9 rfl fk_X13_259 (fun _ _ _ => rfl) dX13_led_39 (fun r7 => ?_)
  refine sn_iload_n (y := m_X13_led) (pc := 42) dX13_led_42 rfl ?_
  refine sn_aaload (y := m_X13_led) (pc := 43) dX13_led_43 (fun r8 => ?_)
  refine sn_getA (y := m_X13_led) (pc := 44) ca_10 rfl fk_X13_84 (fun _ _ _ => rfl) dX13_led_44 (fun r9 => ?_)
  refine sn_iload (y := m_X13_led) (pc := 47) dX13_led_47 rfl ?_
  refine sn_iaload (y := m_X13_led) (pc := 49) dX13_led_49 (fun r10 => ?_)
  refine sn_aload_n (y := m_X13_led) (pc := 50) dX13_led_50 rfl ?_
  refine sn_getA (y := m_X13_led) (pc := 51) ca_11 rfl fk_X13_369 (fun _ _ _ => rfl) dX13_led_51 (fun r11 => ?_)
  refine sn_getA (y := m_X13_led) (pc := 54) ca_9 rfl fk_X13_259 (fun _ _ _ => rfl) dX13_led_54 (fun r12 => ?_)
  refine sn_iload_n (y := m_X13_led) (pc := 57) dX13_led_57 rfl ?_
  refine sn_aaload (y := m_X13_led) (pc := 58) dX13_led_58 (fun r13 => ?_)
  refine sn_getI (y := m_X13_led) (pc := 59) ca_10 rfl fk_X13_59 (fun _ _ _ => rfl) dX13_led_59 (fun r14 => ?_)
  refine sn_irem (y := m_X13_led) (pc := 62) dX13_led_62 ?_
  refine sn_if_eq (y := m_X13_led) (pc := 63) (tgt := 69) dX13_led_63 (by decide) (fun _ => ?_) (fun _ => ?_)
  · refine sn_iload_n (y := m_X13_led) (pc := 69) dX13_led_69 rfl ?_
    refine sn_iload_n (y := m_X13_led) (pc := 70) dX13_led_70 rfl ?_
    refine sn_icmp_ne (y := m_X13_led) (pc := 71) (tgt := 77) dX13_led_71 (by decide) (fun _ => ?_) (fun _ => ?_)
    · refine sn_iinc (y := m_X13_led) (pc := 77) (v := x3 + 1) dX13_led_77 rfl (by rfl) rfl ?_
      refine sn_iinc (y := m_X13_led) (pc := 80) (v := x4 + 1) dX13_led_80 rfl (by rfl) rfl ?_
      refine sn_goto (y := m_X13_led) (pc := 83) (tgt := 10) dX13_led_83 (by decide) ?_
      exact sn_sub rfl (hk10 (x3 + 1) (x4 + 1))
    refine sn_iload (y := m_X13_led) (pc := 74) dX13_led_74 rfl ?_
    exact sn_ireturn rfl dX13_led_76
  refine sn_goto (y := m_X13_led) (pc := 66) (tgt := 80) dX13_led_66 (by decide) ?_
  refine sn_iinc (y := m_X13_led) (pc := 80) (v := x4 + 1) dX13_led_80 rfl (by rfl) rfl ?_
  refine sn_goto (y := m_X13_led) (pc := 83) (tgt := 10) dX13_led_83 (by decide) ?_
  exact sn_sub rfl (hk10 x3 (x4 + 1))
set_option maxRecDepth 100000 in
theorem s_X13_led_l10 {cx : CX} (x0 : (Option Nat)) (x1 : Int32) (x2 : Int32) (x3 : Int32) (x4 : Int32) : Sn cx m_X13_led eI 10 [(3, vI x3), (4, vI x4), (0, vA x0), (1, vI x1), (2, vI x2)] [] (f_X13_led_l10 x0 x1 x2 x3 x4) :=
  sn_lq2 (L := fun x3 x4 => [(3, vI x3), (4, vI x4), (0, vA x0), (1, vI x1), (2, vI x2)]) (fun k hk x3 x4 => s_X13_led_b10 x0 x1 x2 hk x3 x4) fuel x3 x4
def f_X13_led (p0 : (Option Nat)) (p1 : Int32) (p2 : Int32) : Mo Int32 :=
  mBd (mPutI 11 0 p0 (0 : Int32)) (fun _ => f_X13_led_l10 p0 p1 p2 (0 : Int32) (1 : Int32))
set_option maxRecDepth 100000 in
theorem s_X13_led {cx : CX} (p0 : (Option Nat)) (p1 : Int32) (p2 : Int32) : Sn cx m_X13_led eI 0 [(0, vA p0), (1, vI p1), (2, vI p2)] [] (f_X13_led p0 p1 p2) := by
  refine sn_aload_n (y := m_X13_led) (pc := 0) dX13_led_0 rfl ?_
  refine sn_iconst (y := m_X13_led) (pc := 1) dX13_led_1 kc_iconst_0 ?_
  refine sn_putI (y := m_X13_led) (pc := 2) ca_11 rfl fk_X13_46 (Or.inl rfl) rfl dX13_led_2 ?_
  refine sn_iconst (y := m_X13_led) (pc := 5) dX13_led_5 kc_iconst_0 ?_
  refine sn_istore_n (y := m_X13_led) (pc := 6) dX13_led_6 rfl ?_
  refine sn_iconst (y := m_X13_led) (pc := 7) dX13_led_7 kc_iconst_1 ?_
  refine sn_istore (y := m_X13_led) (pc := 8) dX13_led_8 rfl ?_
  exact sn_sub rfl (s_X13_led_l10 p0 p1 p2 (0 : Int32) (1 : Int32))
set_option maxRecDepth 100000 in
theorem c_X13_led (g : Gl) (p0 : (Option Nat)) (p1 : Int32) (p2 : Int32) : Cn g m_X13_led eI [vA p0, vI p1, vI p2] (mCk 11 p0 (f_X13_led p0 p1 p2)) := cn_of_sn (by decide +kernel) rfl (fun r => ⟨r, rfl⟩) rfl (fun _ _ => sn_ck (s_X13_led p0 p1 p2))
/-! X13_told -/
def f_X13_told (p0 : (Option Nat)) (p1 : Int32) : Mo Int32 :=
  mBd (mPutI 11 0 p0 (0 : Int32)) (fun _ => (if ¬ p1 = (7 : Int32) then mBd (f_X13_in p1 (0 : Int32) (6 : Int32)) (fun r1 => (if ¬ r1 = 0 then mBd (mGetA 11 3 p0) (fun r2 => (if r2 = none then mRt (0 : Int32) else (if p1 = (0 : Int32) then mBd (mGetA 11 3 p0) (fun r3 => mBd (mGetI 9 0 r3) (fun r4 => mRt r4)) else (if p1 = (1 : Int32) then mBd (mGetA 11 3 p0) (fun r5 => mBd (mGetI 9 1 r5) (fun r6 => mRt r6)) else (if p1 = (2 : Int32) then mBd (mGetA 11 3 p0) (fun r7 => mBd (mGetI 9 2 r7) (fun r8 => mRt r8)) else (if p1 = (3 : Int32) then mBd (mGetA 11 24 p0) (fun r9 => mBd (mLdJ r9 (0 : Int32)) (fun r10 => mRt (r10.toInt32))) else (if p1 = (4 : Int32) then mBd (mGetI 11 28 p0) (fun r11 => mRt r11) else (if p1 = (5 : Int32) then mBd (mGetI 11 29 p0) (fun r12 => mRt r12) else mBd (mGetI 11 30 p0) (fun r13 => mRt r13))))))))) else mRt (-1 : Int32))) else mBd (mGetI 11 8 p0) (fun r14 => mRt r14)))
set_option maxRecDepth 100000 in
theorem s_X13_told {cx : CX} (p0 : (Option Nat)) (p1 : Int32) : Sn cx m_X13_told eI 0 [(0, vA p0), (1, vI p1)] [] (f_X13_told p0 p1) := by
  refine sn_aload_n (y := m_X13_told) (pc := 0) dX13_told_0 rfl ?_
  refine sn_iconst (y := m_X13_told) (pc := 1) dX13_told_1 kc_iconst_0 ?_
  refine sn_putI (y := m_X13_told) (pc := 2) ca_11 rfl fk_X13_46 (Or.inl rfl) rfl dX13_told_2 ?_
  refine sn_iload_n (y := m_X13_told) (pc := 5) dX13_told_5 rfl ?_
  refine sn_bipush (y := m_X13_told) (pc := 6) dX13_told_6 kc_bipush_7 ?_
  refine sn_icmp_ne (y := m_X13_told) (pc := 8) (tgt := 16) dX13_told_8 (by decide) (fun _ => ?_) (fun _ => ?_)
  · refine sn_iload_n (y := m_X13_told) (pc := 16) dX13_told_16 rfl ?_
    refine sn_iconst (y := m_X13_told) (pc := 17) dX13_told_17 kc_iconst_0 ?_
    refine sn_bipush (y := m_X13_told) (pc := 18) dX13_told_18 kc_bipush_6 ?_
    refine sn_invS (y := m_X13_told) (pc := 20) (av := [vI p1, vI (0 : Int32), vI (6 : Int32)]) (st := []) dX13_told_20 lk_X13_168 sw_X13_in rfl rfl rfl ⟨by decide, by decide⟩ (c_X13_in cx.1 p1 (0 : Int32) (6 : Int32)) (fun r1 => ?_)
    refine sn_if_ne (y := m_X13_told) (pc := 23) (tgt := 28) dX13_told_23 (by decide) (fun _ => ?_) (fun _ => ?_)
    · refine sn_aload_n (y := m_X13_told) (pc := 28) dX13_told_28 rfl ?_
      refine sn_getA (y := m_X13_told) (pc := 29) ca_11 rfl fk_X13_369 (fun _ _ _ => rfl) dX13_told_29 (fun r2 => ?_)
      refine sn_ifnonnull (y := m_X13_told) (pc := 32) (tgt := 37) dX13_told_32 (by decide) ?_ ?_
      · refine sn_iconst (y := m_X13_told) (pc := 35) dX13_told_35 kc_iconst_0 ?_
        exact sn_ireturn rfl dX13_told_36
      refine sn_iload_n (y := m_X13_told) (pc := 37) dX13_told_37 rfl ?_
      refine sn_tabC (y := m_X13_told) (pc := 38) (v := (0 : Int32)) (n := 0) (tgt := 76) (off := 38) dX13_told_38 (by decide) (by decide) rfl (by decide) ?_ (fun h0 => ?_)
      · refine sn_aload_n (y := m_X13_told) (pc := 76) dX13_told_76 rfl ?_
        refine sn_getA (y := m_X13_told) (pc := 77) ca_11 rfl fk_X13_369 (fun _ _ _ => rfl) dX13_told_77 (fun r3 => ?_)
        refine sn_getI (y := m_X13_told) (pc := 80) ca_9 rfl fk_X13_237 (fun _ _ _ => rfl) dX13_told_80 (fun r4 => ?_)
        exact sn_ireturn rfl dX13_told_83
      refine sn_tabC (v := (1 : Int32)) (n := 1) (tgt := 84) (off := 46) dX13_told_38 (by decide) (by decide) rfl (by decide) ?_ (fun h1 => ?_)
      · refine sn_aload_n (y := m_X13_told) (pc := 84) dX13_told_84 rfl ?_
        refine sn_getA (y := m_X13_told) (pc := 85) ca_11 rfl fk_X13_369 (fun _ _ _ => rfl) dX13_told_85 (fun r5 => ?_)
        refine sn_getI (y := m_X13_told) (pc := 88) ca_9 rfl fk_X13_267 (fun _ _ _ => rfl) dX13_told_88 (fun r6 => ?_)
        exact sn_ireturn rfl dX13_told_91
      refine sn_tabC (v := (2 : Int32)) (n := 2) (tgt := 92) (off := 54) dX13_told_38 (by decide) (by decide) rfl (by decide) ?_ (fun h2 => ?_)
      · refine sn_aload_n (y := m_X13_told) (pc := 92) dX13_told_92 rfl ?_
        refine sn_getA (y := m_X13_told) (pc := 93) ca_11 rfl fk_X13_369 (fun _ _ _ => rfl) dX13_told_93 (fun r7 => ?_)
        refine sn_getI (y := m_X13_told) (pc := 96) ca_9 rfl fk_X13_301 (fun _ _ _ => rfl) dX13_told_96 (fun r8 => ?_)
        exact sn_ireturn rfl dX13_told_99
      refine sn_tabC (v := (3 : Int32)) (n := 3) (tgt := 100) (off := 62) dX13_told_38 (by decide) (by decide) rfl (by decide) ?_ (fun h3 => ?_)
      · refine sn_aload_n (y := m_X13_told) (pc := 100) dX13_told_100 rfl ?_
        refine sn_getA (y := m_X13_told) (pc := 101) ca_11 rfl fk_X13_34 (fun _ _ _ => rfl) dX13_told_101 (fun r9 => ?_)
        refine sn_iconst (y := m_X13_told) (pc := 104) dX13_told_104 kc_iconst_0 ?_
        refine sn_laload (y := m_X13_told) (pc := 105) dX13_told_105 (fun r10 => ?_)
        refine sn_l2i (y := m_X13_told) (pc := 106) dX13_told_106 ?_
        exact sn_ireturn rfl dX13_told_107
      refine sn_tabC (v := (4 : Int32)) (n := 4) (tgt := 108) (off := 70) dX13_told_38 (by decide) (by decide) rfl (by decide) ?_ (fun h4 => ?_)
      · refine sn_aload_n (y := m_X13_told) (pc := 108) dX13_told_108 rfl ?_
        refine sn_getI (y := m_X13_told) (pc := 109) ca_11 rfl fk_X13_372 (fun _ _ _ => rfl) dX13_told_109 (fun r11 => ?_)
        exact sn_ireturn rfl dX13_told_112
      refine sn_tabC (v := (5 : Int32)) (n := 5) (tgt := 113) (off := 75) dX13_told_38 (by decide) (by decide) rfl (by decide) ?_ (fun h5 => ?_)
      · refine sn_aload_n (y := m_X13_told) (pc := 113) dX13_told_113 rfl ?_
        refine sn_getI (y := m_X13_told) (pc := 114) ca_11 rfl fk_X13_375 (fun _ _ _ => rfl) dX13_told_114 (fun r12 => ?_)
        exact sn_ireturn rfl dX13_told_117
      refine sn_tabD (tgt := 118) dX13_told_38 (by omega) (by decide) ?_
      refine sn_aload_n (y := m_X13_told) (pc := 118) dX13_told_118 rfl ?_
      refine sn_getI (y := m_X13_told) (pc := 119) ca_11 rfl fk_X13_378 (fun _ _ _ => rfl) dX13_told_119 (fun r13 => ?_)
      exact sn_ireturn rfl dX13_told_122
    refine sn_iconst (y := m_X13_told) (pc := 26) dX13_told_26 kc_iconst_m1 ?_
    exact sn_ireturn rfl dX13_told_27
  refine sn_aload_n (y := m_X13_told) (pc := 11) dX13_told_11 rfl ?_
  refine sn_getI (y := m_X13_told) (pc := 12) ca_11 rfl fk_X13_362 (fun _ _ _ => rfl) dX13_told_12 (fun r14 => ?_)
  exact sn_ireturn rfl dX13_told_15
set_option maxRecDepth 100000 in
theorem c_X13_told (g : Gl) (p0 : (Option Nat)) (p1 : Int32) : Cn g m_X13_told eI [vA p0, vI p1] (mCk 11 p0 (f_X13_told p0 p1)) := cn_of_sn (by decide +kernel) rfl (fun r => ⟨r, rfl⟩) rfl (fun _ _ => sn_ck (s_X13_told p0 p1))
/-! X13_trouble -/
def f_X13_trouble (p0 : (Option Nat)) : Mo Int32 :=
  mBd (mPutI 11 0 p0 (0 : Int32)) (fun _ => mBd (mGetI 11 1 p0) (fun r1 => mRt r1))
set_option maxRecDepth 100000 in
theorem s_X13_trouble {cx : CX} (p0 : (Option Nat)) : Sn cx m_X13_trouble eI 0 [(0, vA p0)] [] (f_X13_trouble p0) := by
  refine sn_aload_n (y := m_X13_trouble) (pc := 0) dX13_trouble_0 rfl ?_
  refine sn_iconst (y := m_X13_trouble) (pc := 1) dX13_trouble_1 kc_iconst_0 ?_
  refine sn_putI (y := m_X13_trouble) (pc := 2) ca_11 rfl fk_X13_46 (Or.inl rfl) rfl dX13_trouble_2 ?_
  refine sn_aload_n (y := m_X13_trouble) (pc := 5) dX13_trouble_5 rfl ?_
  refine sn_getI (y := m_X13_trouble) (pc := 6) ca_11 rfl fk_X13_49 (fun _ _ _ => rfl) dX13_trouble_6 (fun r1 => ?_)
  exact sn_ireturn rfl dX13_trouble_9
set_option maxRecDepth 100000 in
theorem c_X13_trouble (g : Gl) (p0 : (Option Nat)) : Cn g m_X13_trouble eI [vA p0] (mCk 11 p0 (f_X13_trouble p0)) := cn_of_sn (by decide +kernel) rfl (fun r => ⟨r, rfl⟩) rfl (fun _ _ => sn_ck (s_X13_trouble p0))
