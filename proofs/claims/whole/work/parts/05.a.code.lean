/-! X2_init -/
def f_X2_init (p0 : (Option Nat)) : Mo Unit :=
  mCk 2 p0 (mBd (mNewA 1 (199 : Int32)) (fun r1 => mBd (mPutA 2 0 p0 r1) (fun _ => mBd (mNewA 1 (199 : Int32)) (fun r2 => mBd (mPutA 2 1 p0 r2) (fun _ => mBd (mNewA 1 (199 : Int32)) (fun r3 => mBd (mPutA 2 2 p0 r3) (fun _ => mBd (mPutI 2 3 p0 (0 : Int32)) (fun _ => mBd (mPutI 2 4 p0 (0 : Int32)) (fun _ => mRt ())))))))))
set_option maxRecDepth 100000 in
theorem s_X2_init {cx : CX} (p0 : (Option Nat)) : Sn cx m_X2_init eV 0 [(0, vA p0)] [] (f_X2_init p0) := by
  refine sn_aload_n (y := m_X2_init) (pc := 0) dX2_init_0 rfl ?_
  refine sn_objInit (y := m_X2_init) (pc := 1) oi_X2_3 oi_1 oi_2 dX2_init_1 rfl ⟨by decide, by decide⟩ ?_
  refine sn_aload_n (y := m_X2_init) (pc := 4) dX2_init_4 rfl ?_
  refine sn_sipush (y := m_X2_init) (pc := 5) dX2_init_5 kc_sipush_199 ?_
  refine sn_newarray (y := m_X2_init) (pc := 8) (t := 1) rfl (Or.inl rfl) ac_int dX2_init_8 (fun r1 => ?_)
  refine sn_putA (y := m_X2_init) (pc := 10) ca_2 rfl fk_X2_11 (Or.inr ⟨rfl, rfl, rfl, fkm_X2_11⟩) rfl dX2_init_10 ?_
  refine sn_aload_n (y := m_X2_init) (pc := 13) dX2_init_13 rfl ?_
  refine sn_sipush (y := m_X2_init) (pc := 14) dX2_init_14 kc_sipush_199 ?_
  refine sn_newarray (y := m_X2_init) (pc := 17) (t := 1) rfl (Or.inl rfl) ac_int dX2_init_17 (fun r2 => ?_)
  refine sn_putA (y := m_X2_init) (pc := 19) ca_2 rfl fk_X2_15 (Or.inr ⟨rfl, rfl, rfl, fkm_X2_15⟩) rfl dX2_init_19 ?_
  refine sn_aload_n (y := m_X2_init) (pc := 22) dX2_init_22 rfl ?_
  refine sn_sipush (y := m_X2_init) (pc := 23) dX2_init_23 kc_sipush_199 ?_
  refine sn_newarray (y := m_X2_init) (pc := 26) (t := 1) rfl (Or.inl rfl) ac_int dX2_init_26 (fun r3 => ?_)
  refine sn_putA (y := m_X2_init) (pc := 28) ca_2 rfl fk_X2_18 (Or.inr ⟨rfl, rfl, rfl, fkm_X2_18⟩) rfl dX2_init_28 ?_
  refine sn_aload_n (y := m_X2_init) (pc := 31) dX2_init_31 rfl ?_
  refine sn_iconst (y := m_X2_init) (pc := 32) dX2_init_32 kc_iconst_0 ?_
  refine sn_putI (y := m_X2_init) (pc := 33) ca_2 rfl fk_X2_21 (Or.inl rfl) rfl dX2_init_33 ?_
  refine sn_aload_n (y := m_X2_init) (pc := 36) dX2_init_36 rfl ?_
  refine sn_iconst (y := m_X2_init) (pc := 37) dX2_init_37 kc_iconst_0 ?_
  refine sn_putI (y := m_X2_init) (pc := 38) ca_2 rfl fk_X2_25 (Or.inl rfl) rfl dX2_init_38 ?_
  exact sn_return rfl dX2_init_41
set_option maxRecDepth 100000 in
theorem c_X2_init (g : Gl) (p0 : (Option Nat)) : Cn g m_X2_init eV [vA p0] (mCk 2 p0 (f_X2_init p0)) := cn_of_sn (by decide +kernel) rfl (fun _ => rfl) rfl (fun _ _ => sn_ck (s_X2_init p0))
/-! X1_init -/
def f_X1_init (p0 : (Option Nat)) : Mo Unit :=
  mCk 1 p0 (mBd (mNewA 1 (3 : Int32)) (fun r1 => mBd (mPutA 1 0 p0 r1) (fun _ => mBd (mNewA 1 (3 : Int32)) (fun r2 => mBd (mPutA 1 1 p0 r2) (fun _ => mBd (mNewA 2 (199 : Int32)) (fun r3 => mBd (mPutA 1 2 p0 r3) (fun _ => mBd (mNewA 2 (199 : Int32)) (fun r4 => mBd (mPutA 1 3 p0 r4) (fun _ => mBd (mPutI 1 4 p0 (0 : Int32)) (fun _ => mBd (mPutI 1 5 p0 (0 : Int32)) (fun _ => mBd (mPutI 1 6 p0 (0 : Int32)) (fun _ => mRt ()))))))))))))
set_option maxRecDepth 100000 in
theorem s_X1_init {cx : CX} (p0 : (Option Nat)) : Sn cx m_X1_init eV 0 [(0, vA p0)] [] (f_X1_init p0) := by
  refine sn_aload_n (y := m_X1_init) (pc := 0) dX1_init_0 rfl ?_
  refine sn_objInit (y := m_X1_init) (pc := 1) oi_X1_1 oi_1 oi_2 dX1_init_1 rfl ⟨by decide, by decide⟩ ?_
  refine sn_aload_n (y := m_X1_init) (pc := 4) dX1_init_4 rfl ?_
  refine sn_iconst (y := m_X1_init) (pc := 5) dX1_init_5 kc_iconst_3 ?_
  refine sn_newarray (y := m_X1_init) (pc := 6) (t := 1) rfl (Or.inl rfl) ac_int dX1_init_6 (fun r1 => ?_)
  refine sn_putA (y := m_X1_init) (pc := 8) ca_1 rfl fk_X1_9 (Or.inr ⟨rfl, rfl, rfl, fkm_X1_9⟩) rfl dX1_init_8 ?_
  refine sn_aload_n (y := m_X1_init) (pc := 11) dX1_init_11 rfl ?_
  refine sn_iconst (y := m_X1_init) (pc := 12) dX1_init_12 kc_iconst_3 ?_
  refine sn_newarray (y := m_X1_init) (pc := 13) (t := 1) rfl (Or.inl rfl) ac_int dX1_init_13 (fun r2 => ?_)
  refine sn_putA (y := m_X1_init) (pc := 15) ca_1 rfl fk_X1_13 (Or.inr ⟨rfl, rfl, rfl, fkm_X1_13⟩) rfl dX1_init_15 ?_
  refine sn_aload_n (y := m_X1_init) (pc := 18) dX1_init_18 rfl ?_
  refine sn_sipush (y := m_X1_init) (pc := 19) dX1_init_19 kc_sipush_199 ?_
  refine sn_newarray (y := m_X1_init) (pc := 22) (t := 2) rfl (Or.inr (Or.inl rfl)) ac_long dX1_init_22 (fun r3 => ?_)
  refine sn_putA (y := m_X1_init) (pc := 24) ca_1 rfl fk_X1_18 (Or.inr ⟨rfl, rfl, rfl, fkm_X1_18⟩) rfl dX1_init_24 ?_
  refine sn_aload_n (y := m_X1_init) (pc := 27) dX1_init_27 rfl ?_
  refine sn_sipush (y := m_X1_init) (pc := 28) dX1_init_28 kc_sipush_199 ?_
  refine sn_newarray (y := m_X1_init) (pc := 31) (t := 2) rfl (Or.inr (Or.inl rfl)) ac_long dX1_init_31 (fun r4 => ?_)
  refine sn_putA (y := m_X1_init) (pc := 33) ca_1 rfl fk_X1_22 (Or.inr ⟨rfl, rfl, rfl, fkm_X1_22⟩) rfl dX1_init_33 ?_
  refine sn_aload_n (y := m_X1_init) (pc := 36) dX1_init_36 rfl ?_
  refine sn_iconst (y := m_X1_init) (pc := 37) dX1_init_37 kc_iconst_0 ?_
  refine sn_putI (y := m_X1_init) (pc := 38) ca_1 rfl fk_X1_25 (Or.inl rfl) rfl dX1_init_38 ?_
  refine sn_aload_n (y := m_X1_init) (pc := 41) dX1_init_41 rfl ?_
  refine sn_iconst (y := m_X1_init) (pc := 42) dX1_init_42 kc_iconst_0 ?_
  refine sn_putI (y := m_X1_init) (pc := 43) ca_1 rfl fk_X1_29 (Or.inl rfl) rfl dX1_init_43 ?_
  refine sn_aload_n (y := m_X1_init) (pc := 46) dX1_init_46 rfl ?_
  refine sn_iconst (y := m_X1_init) (pc := 47) dX1_init_47 kc_iconst_0 ?_
  refine sn_putI (y := m_X1_init) (pc := 48) ca_1 rfl fk_X1_32 (Or.inl rfl) rfl dX1_init_48 ?_
  exact sn_return rfl dX1_init_51
set_option maxRecDepth 100000 in
theorem c_X1_init (g : Gl) (p0 : (Option Nat)) : Cn g m_X1_init eV [vA p0] (mCk 1 p0 (f_X1_init p0)) := cn_of_sn (by decide +kernel) rfl (fun _ => rfl) rfl (fun _ _ => sn_ck (s_X1_init p0))
/-! X0_init -/
def f_X0_init_b116 (x0 : (Option Nat)) (k116 : Int32 → Mo Unit) (x1 : Int32) : Mo Unit :=
  mBd (mGetA 0 1 x0) (fun r10 => mBd (mLen r10) (fun r11 => (if x1 ≥ r11 then mRt () else mBd (mGetA 0 1 x0) (fun r12 => mBd (mNew 1) (fun r13 => mBd (mCk 1 r13 (f_X1_init r13)) (fun _ => mBd (mStA 5 r12 x1 r13) (fun _ => k116 (x1 + 1))))))))
def f_X0_init_l116 (x0 : (Option Nat)) : Int32 → Mo Unit := lq1 (f_X0_init_b116 x0) fuel
set_option maxRecDepth 100000 in
theorem s_X0_init_b116 {cx : CX} (x0 : (Option Nat)) {k116 : Int32 → Mo Unit} (hk116 : ∀ (z1 : Int32), Sn cx m_X0_init eV 116 [(1, vI z1), (0, vA x0)] [] (k116 z1)) (x1 : Int32) : Sn cx m_X0_init eV 116 [(1, vI x1), (0, vA x0)] [] (f_X0_init_b116 x0 k116 x1) := by
  refine sn_iload_n (y := m_X0_init) (pc := 116) dX0_init_116 rfl ?_
  refine sn_aload_n (y := m_X0_init) (pc := 117) dX0_init_117 rfl ?_
  refine sn_getA (y := m_X0_init) (pc := 118) ca_0 rfl fk_X0_19 (fun _ _ _ => rfl) dX0_init_118 (fun r10 => ?_)
  refine sn_alen (y := m_X0_init) (pc := 121) dX0_init_121 (fun r11 => ?_)
  refine sn_icmp_ge (y := m_X0_init) (pc := 122) (tgt := 144) dX0_init_122 (by decide) (fun _ => ?_) (fun _ => ?_)
  · exact sn_return rfl dX0_init_144
  refine sn_aload_n (y := m_X0_init) (pc := 125) dX0_init_125 rfl ?_
  refine sn_getA (y := m_X0_init) (pc := 126) ca_0 rfl fk_X0_19 (fun _ _ _ => rfl) dX0_init_126 (fun r12 => ?_)
  refine sn_iload_n (y := m_X0_init) (pc := 129) dX0_init_129 rfl ?_
  refine sn_new (y := m_X0_init) (pc := 130) ca_1 nk_X0_17 dX0_init_130 (fun r13 => ?_)
  refine sn_dup (y := m_X0_init) (pc := 133) rfl dX0_init_133 ?_
  refine sn_invI (y := m_X0_init) (pc := 134) (c := 1) (av := []) (o := r13) (st := [vA r13, vI x1, vA r12]) dX0_init_134 (Or.inl lk_X0_58) im_X1_init rfl rfl rfl rfl rfl ⟨by decide, by decide⟩ (c_X1_init cx.1 r13) (fun _ => ?_)
  refine sn_aastore (y := m_X0_init) (pc := 137) dX0_init_137 ?_
  refine sn_iinc (y := m_X0_init) (pc := 138) (v := x1 + 1) dX0_init_138 rfl (by rfl) rfl ?_
  refine sn_goto (y := m_X0_init) (pc := 141) (tgt := 116) dX0_init_141 (by decide) ?_
  exact sn_sub rfl (hk116 (x1 + 1))
set_option maxRecDepth 100000 in
theorem s_X0_init_l116 {cx : CX} (x0 : (Option Nat)) (x1 : Int32) : Sn cx m_X0_init eV 116 [(1, vI x1), (0, vA x0)] [] (f_X0_init_l116 x0 x1) :=
  sn_lq1 (L := fun x1 => [(1, vI x1), (0, vA x0)]) (fun k hk x1 => s_X0_init_b116 x0 hk x1) fuel x1
def f_X0_init_b86 (x0 : (Option Nat)) (k86 : Int32 → Mo Unit) (x1 : Int32) : Mo Unit :=
  mBd (mGetA 0 0 x0) (fun r8 => mBd (mLen r8) (fun r9 => (if x1 ≥ r9 then f_X0_init_l116 x0 (0 : Int32) else mBd (mGetA 0 0 x0) (fun r14 => mBd (mNew 2) (fun r15 => mBd (mCk 2 r15 (f_X2_init r15)) (fun _ => mBd (mStA 4 r14 x1 r15) (fun _ => k86 (x1 + 1))))))))
def f_X0_init_l86 (x0 : (Option Nat)) : Int32 → Mo Unit := lq1 (f_X0_init_b86 x0) fuel
set_option maxRecDepth 100000 in
theorem s_X0_init_b86 {cx : CX} (x0 : (Option Nat)) {k86 : Int32 → Mo Unit} (hk86 : ∀ (z1 : Int32), Sn cx m_X0_init eV 86 [(1, vI z1), (0, vA x0)] [] (k86 z1)) (x1 : Int32) : Sn cx m_X0_init eV 86 [(1, vI x1), (0, vA x0)] [] (f_X0_init_b86 x0 k86 x1) := by
  refine sn_iload_n (y := m_X0_init) (pc := 86) dX0_init_86 rfl ?_
  refine sn_aload_n (y := m_X0_init) (pc := 87) dX0_init_87 rfl ?_
  refine sn_getA (y := m_X0_init) (pc := 88) ca_0 rfl fk_X0_13 (fun _ _ _ => rfl) dX0_init_88 (fun r8 => ?_)
  refine sn_alen (y := m_X0_init) (pc := 91) dX0_init_91 (fun r9 => ?_)
  refine sn_icmp_ge (y := m_X0_init) (pc := 92) (tgt := 114) dX0_init_92 (by decide) (fun _ => ?_) (fun _ => ?_)
  · refine sn_iconst (y := m_X0_init) (pc := 114) dX0_init_114 kc_iconst_0 ?_
    refine sn_istore_n (y := m_X0_init) (pc := 115) dX0_init_115 rfl ?_
    exact sn_sub rfl (s_X0_init_l116 x0 (0 : Int32))
  refine sn_aload_n (y := m_X0_init) (pc := 95) dX0_init_95 rfl ?_
  refine sn_getA (y := m_X0_init) (pc := 96) ca_0 rfl fk_X0_13 (fun _ _ _ => rfl) dX0_init_96 (fun r14 => ?_)
  refine sn_iload_n (y := m_X0_init) (pc := 99) dX0_init_99 rfl ?_
  refine sn_new (y := m_X0_init) (pc := 100) ca_2 nk_X0_11 dX0_init_100 (fun r15 => ?_)
  refine sn_dup (y := m_X0_init) (pc := 103) rfl dX0_init_103 ?_
  refine sn_invI (y := m_X0_init) (pc := 104) (c := 2) (av := []) (o := r15) (st := [vA r15, vI x1, vA r14]) dX0_init_104 (Or.inl lk_X0_57) im_X2_init rfl rfl rfl rfl rfl ⟨by decide, by decide⟩ (c_X2_init cx.1 r15) (fun _ => ?_)
  refine sn_aastore (y := m_X0_init) (pc := 107) dX0_init_107 ?_
  refine sn_iinc (y := m_X0_init) (pc := 108) (v := x1 + 1) dX0_init_108 rfl (by rfl) rfl ?_
  refine sn_goto (y := m_X0_init) (pc := 111) (tgt := 86) dX0_init_111 (by decide) ?_
  exact sn_sub rfl (hk86 (x1 + 1))
set_option maxRecDepth 100000 in
theorem s_X0_init_l86 {cx : CX} (x0 : (Option Nat)) (x1 : Int32) : Sn cx m_X0_init eV 86 [(1, vI x1), (0, vA x0)] [] (f_X0_init_l86 x0 x1) :=
  sn_lq1 (L := fun x1 => [(1, vI x1), (0, vA x0)]) (fun k hk x1 => s_X0_init_b86 x0 hk x1) fuel x1
def f_X0_init (p0 : (Option Nat)) : Mo Unit :=
  mCk 0 p0 (mBd (mNewA 4 (4 : Int32)) (fun r1 => mBd (mPutA 0 0 p0 r1) (fun _ => mBd (mNewA 5 (4 : Int32)) (fun r2 => mBd (mPutA 0 1 p0 r2) (fun _ => mBd (mNewM (8 : Int32) (10 : Int32)) (fun r3 => mBd (mPutA 0 2 p0 r3) (fun _ => mBd (mNewA 1 (8 : Int32)) (fun r4 => mBd (mPutA 0 3 p0 r4) (fun _ => mBd (mNewA 2 (16 : Int32)) (fun r5 => mBd (mPutA 0 4 p0 r5) (fun _ => mBd (mNewA 1 (16 : Int32)) (fun r6 => mBd (mPutA 0 5 p0 r6) (fun _ => mBd (mNewA 1 (16 : Int32)) (fun r7 => mBd (mPutA 0 6 p0 r7) (fun _ => mBd (mPutI 0 7 p0 (0 : Int32)) (fun _ => mBd (mPutI 0 8 p0 (0 : Int32)) (fun _ => mBd (mPutI 0 9 p0 (0 : Int32)) (fun _ => mBd (mPutI 0 10 p0 (0 : Int32)) (fun _ => f_X0_init_l86 p0 (0 : Int32))))))))))))))))))))
set_option maxRecDepth 100000 in
theorem s_X0_init {cx : CX} (p0 : (Option Nat)) : Sn cx m_X0_init eV 0 [(0, vA p0)] [] (f_X0_init p0) := by
  refine sn_aload_n (y := m_X0_init) (pc := 0) dX0_init_0 rfl ?_
  refine sn_objInit (y := m_X0_init) (pc := 1) oi_X0_3 oi_1 oi_2 dX0_init_1 rfl ⟨by decide, by decide⟩ ?_
  refine sn_aload_n (y := m_X0_init) (pc := 4) dX0_init_4 rfl ?_
  refine sn_iconst (y := m_X0_init) (pc := 5) dX0_init_5 kc_iconst_4 ?_
  refine sn_anewarray (y := m_X0_init) (pc := 6) (t := 4) rfl (Or.inl rfl) cl_X0_11 dX0_init_6 (fun r1 => ?_)
  refine sn_putA (y := m_X0_init) (pc := 9) ca_0 rfl fk_X0_13 (Or.inr ⟨rfl, rfl, rfl, fkm_X0_13⟩) rfl dX0_init_9 ?_
  refine sn_aload_n (y := m_X0_init) (pc := 12) dX0_init_12 rfl ?_
  refine sn_iconst (y := m_X0_init) (pc := 13) dX0_init_13 kc_iconst_4 ?_
  refine sn_anewarray (y := m_X0_init) (pc := 14) (t := 5) rfl (Or.inr (Or.inl rfl)) cl_X0_17 dX0_init_14 (fun r2 => ?_)
  refine sn_putA (y := m_X0_init) (pc := 17) ca_0 rfl fk_X0_19 (Or.inr ⟨rfl, rfl, rfl, fkm_X0_19⟩) rfl dX0_init_17 ?_
  refine sn_aload_n (y := m_X0_init) (pc := 20) dX0_init_20 rfl ?_
  refine sn_bipush (y := m_X0_init) (pc := 21) dX0_init_21 kc_bipush_8 ?_
  refine sn_bipush (y := m_X0_init) (pc := 23) dX0_init_23 kc_bipush_10 ?_
  refine sn_mnew (y := m_X0_init) (pc := 25) cl_X0_25 ac_long dX0_init_25 (fun r3 => ?_)
  refine sn_putA (y := m_X0_init) (pc := 29) ca_0 rfl fk_X0_27 (Or.inr ⟨rfl, rfl, rfl, fkm_X0_27⟩) rfl dX0_init_29 ?_
  refine sn_aload_n (y := m_X0_init) (pc := 32) dX0_init_32 rfl ?_
  refine sn_bipush (y := m_X0_init) (pc := 33) dX0_init_33 kc_bipush_8 ?_
  refine sn_newarray (y := m_X0_init) (pc := 35) (t := 1) rfl (Or.inl rfl) ac_int dX0_init_35 (fun r4 => ?_)
  refine sn_putA (y := m_X0_init) (pc := 37) ca_0 rfl fk_X0_30 (Or.inr ⟨rfl, rfl, rfl, fkm_X0_30⟩) rfl dX0_init_37 ?_
  refine sn_aload_n (y := m_X0_init) (pc := 40) dX0_init_40 rfl ?_
  refine sn_bipush (y := m_X0_init) (pc := 41) dX0_init_41 kc_bipush_16 ?_
  refine sn_newarray (y := m_X0_init) (pc := 43) (t := 2) rfl (Or.inr (Or.inl rfl)) ac_long dX0_init_43 (fun r5 => ?_)
  refine sn_putA (y := m_X0_init) (pc := 45) ca_0 rfl fk_X0_34 (Or.inr ⟨rfl, rfl, rfl, fkm_X0_34⟩) rfl dX0_init_45 ?_
  refine sn_aload_n (y := m_X0_init) (pc := 48) dX0_init_48 rfl ?_
  refine sn_bipush (y := m_X0_init) (pc := 49) dX0_init_49 kc_bipush_16 ?_
  refine sn_newarray (y := m_X0_init) (pc := 51) (t := 1) rfl (Or.inl rfl) ac_int dX0_init_51 (fun r6 => ?_)
  refine sn_putA (y := m_X0_init) (pc := 53) ca_0 rfl fk_X0_38 (Or.inr ⟨rfl, rfl, rfl, fkm_X0_38⟩) rfl dX0_init_53 ?_
  refine sn_aload_n (y := m_X0_init) (pc := 56) dX0_init_56 rfl ?_
  refine sn_bipush (y := m_X0_init) (pc := 57) dX0_init_57 kc_bipush_16 ?_
  refine sn_newarray (y := m_X0_init) (pc := 59) (t := 1) rfl (Or.inl rfl) ac_int dX0_init_59 (fun r7 => ?_)
  refine sn_putA (y := m_X0_init) (pc := 61) ca_0 rfl fk_X0_41 (Or.inr ⟨rfl, rfl, rfl, fkm_X0_41⟩) rfl dX0_init_61 ?_
  refine sn_aload_n (y := m_X0_init) (pc := 64) dX0_init_64 rfl ?_
  refine sn_iconst (y := m_X0_init) (pc := 65) dX0_init_65 kc_iconst_0 ?_
  refine sn_putI (y := m_X0_init) (pc := 66) ca_0 rfl fk_X0_44 (Or.inl rfl) rfl dX0_init_66 ?_
  refine sn_aload_n (y := m_X0_init) (pc := 69) dX0_init_69 rfl ?_
  refine sn_iconst (y := m_X0_init) (pc := 70) dX0_init_70 kc_iconst_0 ?_
  refine sn_putI (y := m_X0_init) (pc := 71) ca_0 rfl fk_X0_48 (Or.inl rfl) rfl dX0_init_71 ?_
  refine sn_aload_n (y := m_X0_init) (pc := 74) dX0_init_74 rfl ?_
  refine sn_iconst (y := m_X0_init) (pc := 75) dX0_init_75 kc_iconst_0 ?_
  refine sn_putI (y := m_X0_init) (pc := 76) ca_0 rfl fk_X0_51 (Or.inl rfl) rfl dX0_init_76 ?_
  refine sn_aload_n (y := m_X0_init) (pc := 79) dX0_init_79 rfl ?_
  refine sn_iconst (y := m_X0_init) (pc := 80) dX0_init_80 kc_iconst_0 ?_
  refine sn_putI (y := m_X0_init) (pc := 81) ca_0 rfl fk_X0_54 (Or.inl rfl) rfl dX0_init_81 ?_
  refine sn_iconst (y := m_X0_init) (pc := 84) dX0_init_84 kc_iconst_0 ?_
  refine sn_istore_n (y := m_X0_init) (pc := 85) dX0_init_85 rfl ?_
  exact sn_sub rfl (s_X0_init_l86 p0 (0 : Int32))
set_option maxRecDepth 100000 in
theorem c_X0_init (g : Gl) (p0 : (Option Nat)) : Cn g m_X0_init eV [vA p0] (mCk 0 p0 (f_X0_init p0)) := cn_of_sn (by decide +kernel) rfl (fun _ => rfl) rfl (fun _ _ => sn_ck (s_X0_init p0))
/-! X0_empty -/
def f_X0_empty (p0 : (Option Nat)) : Mo Unit :=
  mBd (mPutI 0 7 p0 (0 : Int32)) (fun _ => mBd (mPutI 0 8 p0 (0 : Int32)) (fun _ => mBd (mPutI 0 9 p0 (0 : Int32)) (fun _ => mBd (mPutI 0 10 p0 (0 : Int32)) (fun _ => mRt ()))))
set_option maxRecDepth 100000 in
theorem s_X0_empty {cx : CX} (p0 : (Option Nat)) : Sn cx m_X0_empty eV 0 [(0, vA p0)] [] (f_X0_empty p0) := by
  refine sn_aload_n (y := m_X0_empty) (pc := 0) dX0_empty_0 rfl ?_
  refine sn_iconst (y := m_X0_empty) (pc := 1) dX0_empty_1 kc_iconst_0 ?_
  refine sn_putI (y := m_X0_empty) (pc := 2) ca_0 rfl fk_X0_44 (Or.inl rfl) rfl dX0_empty_2 ?_
  refine sn_aload_n (y := m_X0_empty) (pc := 5) dX0_empty_5 rfl ?_
  refine sn_iconst (y := m_X0_empty) (pc := 6) dX0_empty_6 kc_iconst_0 ?_
  refine sn_putI (y := m_X0_empty) (pc := 7) ca_0 rfl fk_X0_48 (Or.inl rfl) rfl dX0_empty_7 ?_
  refine sn_aload_n (y := m_X0_empty) (pc := 10) dX0_empty_10 rfl ?_
  refine sn_iconst (y := m_X0_empty) (pc := 11) dX0_empty_11 kc_iconst_0 ?_
  refine sn_putI (y := m_X0_empty) (pc := 12) ca_0 rfl fk_X0_51 (Or.inl rfl) rfl dX0_empty_12 ?_
  refine sn_aload_n (y := m_X0_empty) (pc := 15) dX0_empty_15 rfl ?_
  refine sn_iconst (y := m_X0_empty) (pc := 16) dX0_empty_16 kc_iconst_0 ?_
  refine sn_putI (y := m_X0_empty) (pc := 17) ca_0 rfl fk_X0_54 (Or.inl rfl) rfl dX0_empty_17 ?_
  exact sn_return rfl dX0_empty_20
set_option maxRecDepth 100000 in
theorem c_X0_empty (g : Gl) (p0 : (Option Nat)) : Cn g m_X0_empty eV [vA p0] (mCk 0 p0 (f_X0_empty p0)) := cn_of_sn (by decide +kernel) rfl (fun _ => rfl) rfl (fun _ _ => sn_ck (s_X0_empty p0))
/-! X0_fieldsHeld -/
def f_X0_fieldsHeld (p0 : (Option Nat)) : Mo Int32 :=
  mBd (mGetI 0 7 p0) (fun r1 => mRt r1)
set_option maxRecDepth 100000 in
theorem s_X0_fieldsHeld {cx : CX} (p0 : (Option Nat)) : Sn cx m_X0_fieldsHeld eI 0 [(0, vA p0)] [] (f_X0_fieldsHeld p0) := by
  refine sn_aload_n (y := m_X0_fieldsHeld) (pc := 0) dX0_fieldsHeld_0 rfl ?_
  refine sn_getI (y := m_X0_fieldsHeld) (pc := 1) ca_0 rfl fk_X0_44 (fun _ _ _ => rfl) dX0_fieldsHeld_1 (fun r1 => ?_)
  exact sn_ireturn rfl dX0_fieldsHeld_4
set_option maxRecDepth 100000 in
theorem c_X0_fieldsHeld (g : Gl) (p0 : (Option Nat)) : Cn g m_X0_fieldsHeld eI [vA p0] (mCk 0 p0 (f_X0_fieldsHeld p0)) := cn_of_sn (by decide +kernel) rfl (fun r => ⟨r, rfl⟩) rfl (fun _ _ => sn_ck (s_X0_fieldsHeld p0))
/-! X0_equationsHeld -/
def f_X0_equationsHeld (p0 : (Option Nat)) : Mo Int32 :=
  mBd (mGetI 0 8 p0) (fun r1 => mRt r1)
set_option maxRecDepth 100000 in
theorem s_X0_equationsHeld {cx : CX} (p0 : (Option Nat)) : Sn cx m_X0_equationsHeld eI 0 [(0, vA p0)] [] (f_X0_equationsHeld p0) := by
  refine sn_aload_n (y := m_X0_equationsHeld) (pc := 0) dX0_equationsHeld_0 rfl ?_
  refine sn_getI (y := m_X0_equationsHeld) (pc := 1) ca_0 rfl fk_X0_48 (fun _ _ _ => rfl) dX0_equationsHeld_1 (fun r1 => ?_)
  exact sn_ireturn rfl dX0_equationsHeld_4
set_option maxRecDepth 100000 in
theorem c_X0_equationsHeld (g : Gl) (p0 : (Option Nat)) : Cn g m_X0_equationsHeld eI [vA p0] (mCk 0 p0 (f_X0_equationsHeld p0)) := cn_of_sn (by decide +kernel) rfl (fun r => ⟨r, rfl⟩) rfl (fun _ _ => sn_ck (s_X0_equationsHeld p0))
/-! X0_letsHeld -/
def f_X0_letsHeld (p0 : (Option Nat)) : Mo Int32 :=
  mBd (mGetI 0 9 p0) (fun r1 => mRt r1)
set_option maxRecDepth 100000 in
theorem s_X0_letsHeld {cx : CX} (p0 : (Option Nat)) : Sn cx m_X0_letsHeld eI 0 [(0, vA p0)] [] (f_X0_letsHeld p0) := by
  refine sn_aload_n (y := m_X0_letsHeld) (pc := 0) dX0_letsHeld_0 rfl ?_
  refine sn_getI (y := m_X0_letsHeld) (pc := 1) ca_0 rfl fk_X0_51 (fun _ _ _ => rfl) dX0_letsHeld_1 (fun r1 => ?_)
  exact sn_ireturn rfl dX0_letsHeld_4
set_option maxRecDepth 100000 in
theorem c_X0_letsHeld (g : Gl) (p0 : (Option Nat)) : Cn g m_X0_letsHeld eI [vA p0] (mCk 0 p0 (f_X0_letsHeld p0)) := cn_of_sn (by decide +kernel) rfl (fun r => ⟨r, rfl⟩) rfl (fun _ _ => sn_ck (s_X0_letsHeld p0))
/-! X0_fieldAt -/
def f_X0_fieldAt (p0 : (Option Nat)) (p1 : Int32) : Mo (Option Nat) :=
  (if p1 < 0 then mRt none else mBd (mGetI 0 7 p0) (fun r1 => (if p1 ≥ r1 then mRt none else mBd (mGetA 0 0 p0) (fun r2 => mBd (mLen r2) (fun r3 => (if p1 ≥ r3 then mRt none else mBd (mGetA 0 0 p0) (fun r4 => mBd (mLdA 4 r4 p1) (fun r5 => mRt r5))))))))
set_option maxRecDepth 100000 in
theorem s_X0_fieldAt {cx : CX} (p0 : (Option Nat)) (p1 : Int32) : Sn cx m_X0_fieldAt eA 0 [(0, vA p0), (1, vI p1)] [] (f_X0_fieldAt p0 p1) := by
  refine sn_iload_n (y := m_X0_fieldAt) (pc := 0) dX0_fieldAt_0 rfl ?_
  refine sn_if_lt (y := m_X0_fieldAt) (pc := 1) (tgt := 30) dX0_fieldAt_1 (by decide) (fun _ => ?_) (fun _ => ?_)
  · refine sn_anull (y := m_X0_fieldAt) (pc := 30) dX0_fieldAt_30 ?_
    exact sn_areturn (Or.inl ⟨_, rfl⟩) dX0_fieldAt_31
  refine sn_iload_n (y := m_X0_fieldAt) (pc := 4) dX0_fieldAt_4 rfl ?_
  refine sn_aload_n (y := m_X0_fieldAt) (pc := 5) dX0_fieldAt_5 rfl ?_
  refine sn_getI (y := m_X0_fieldAt) (pc := 6) ca_0 rfl fk_X0_44 (fun _ _ _ => rfl) dX0_fieldAt_6 (fun r1 => ?_)
  refine sn_icmp_ge (y := m_X0_fieldAt) (pc := 9) (tgt := 30) dX0_fieldAt_9 (by decide) (fun _ => ?_) (fun _ => ?_)
  · refine sn_anull (y := m_X0_fieldAt) (pc := 30) dX0_fieldAt_30 ?_
    exact sn_areturn (Or.inl ⟨_, rfl⟩) dX0_fieldAt_31
  refine sn_iload_n (y := m_X0_fieldAt) (pc := 12) dX0_fieldAt_12 rfl ?_
  refine sn_aload_n (y := m_X0_fieldAt) (pc := 13) dX0_fieldAt_13 rfl ?_
  refine sn_getA (y := m_X0_fieldAt) (pc := 14) ca_0 rfl fk_X0_13 (fun _ _ _ => rfl) dX0_fieldAt_14 (fun r2 => ?_)
  refine sn_alen (y := m_X0_fieldAt) (pc := 17) dX0_fieldAt_17 (fun r3 => ?_)
  refine sn_icmp_ge (y := m_X0_fieldAt) (pc := 18) (tgt := 30) dX0_fieldAt_18 (by decide) (fun _ => ?_) (fun _ => ?_)
  · refine sn_anull (y := m_X0_fieldAt) (pc := 30) dX0_fieldAt_30 ?_
    exact sn_areturn (Or.inl ⟨_, rfl⟩) dX0_fieldAt_31
  refine sn_aload_n (y := m_X0_fieldAt) (pc := 21) dX0_fieldAt_21 rfl ?_
  refine sn_getA (y := m_X0_fieldAt) (pc := 22) ca_0 rfl fk_X0_13 (fun _ _ _ => rfl) dX0_fieldAt_22 (fun r4 => ?_)
  refine sn_iload_n (y := m_X0_fieldAt) (pc := 25) dX0_fieldAt_25 rfl ?_
  refine sn_aaload (y := m_X0_fieldAt) (pc := 26) dX0_fieldAt_26 (fun r5 => ?_)
  refine sn_goto (y := m_X0_fieldAt) (pc := 27) (tgt := 31) dX0_fieldAt_27 (by decide) ?_
  exact sn_areturn (Or.inl ⟨_, rfl⟩) dX0_fieldAt_31
set_option maxRecDepth 100000 in
theorem c_X0_fieldAt (g : Gl) (p0 : (Option Nat)) (p1 : Int32) : Cn g m_X0_fieldAt eA [vA p0, vI p1] (mCk 0 p0 (f_X0_fieldAt p0 p1)) := cn_of_sn (by decide +kernel) rfl (fun r => ⟨r, rfl⟩) rfl (fun _ _ => sn_ck (s_X0_fieldAt p0 p1))
/-! X0_equationAt -/
def f_X0_equationAt (p0 : (Option Nat)) (p1 : Int32) : Mo (Option Nat) :=
  (if p1 < 0 then mRt none else mBd (mGetI 0 8 p0) (fun r1 => (if p1 ≥ r1 then mRt none else mBd (mGetA 0 1 p0) (fun r2 => mBd (mLen r2) (fun r3 => (if p1 ≥ r3 then mRt none else mBd (mGetA 0 1 p0) (fun r4 => mBd (mLdA 5 r4 p1) (fun r5 => mRt r5))))))))
set_option maxRecDepth 100000 in
theorem s_X0_equationAt {cx : CX} (p0 : (Option Nat)) (p1 : Int32) : Sn cx m_X0_equationAt eA 0 [(0, vA p0), (1, vI p1)] [] (f_X0_equationAt p0 p1) := by
  refine sn_iload_n (y := m_X0_equationAt) (pc := 0) dX0_equationAt_0 rfl ?_
  refine sn_if_lt (y := m_X0_equationAt) (pc := 1) (tgt := 30) dX0_equationAt_1 (by decide) (fun _ => ?_) (fun _ => ?_)
  · refine sn_anull (y := m_X0_equationAt) (pc := 30) dX0_equationAt_30 ?_
    exact sn_areturn (Or.inl ⟨_, rfl⟩) dX0_equationAt_31
  refine sn_iload_n (y := m_X0_equationAt) (pc := 4) dX0_equationAt_4 rfl ?_
  refine sn_aload_n (y := m_X0_equationAt) (pc := 5) dX0_equationAt_5 rfl ?_
  refine sn_getI (y := m_X0_equationAt) (pc := 6) ca_0 rfl fk_X0_48 (fun _ _ _ => rfl) dX0_equationAt_6 (fun r1 => ?_)
  refine sn_icmp_ge (y := m_X0_equationAt) (pc := 9) (tgt := 30) dX0_equationAt_9 (by decide) (fun _ => ?_) (fun _ => ?_)
  · refine sn_anull (y := m_X0_equationAt) (pc := 30) dX0_equationAt_30 ?_
    exact sn_areturn (Or.inl ⟨_, rfl⟩) dX0_equationAt_31
  refine sn_iload_n (y := m_X0_equationAt) (pc := 12) dX0_equationAt_12 rfl ?_
  refine sn_aload_n (y := m_X0_equationAt) (pc := 13) dX0_equationAt_13 rfl ?_
  refine sn_getA (y := m_X0_equationAt) (pc := 14) ca_0 rfl fk_X0_19 (fun _ _ _ => rfl) dX0_equationAt_14 (fun r2 => ?_)
  refine sn_alen (y := m_X0_equationAt) (pc := 17) dX0_equationAt_17 (fun r3 => ?_)
  refine sn_icmp_ge (y := m_X0_equationAt) (pc := 18) (tgt := 30) dX0_equationAt_18 (by decide) (fun _ => ?_) (fun _ => ?_)
  · refine sn_anull (y := m_X0_equationAt) (pc := 30) dX0_equationAt_30 ?_
    exact sn_areturn (Or.inl ⟨_, rfl⟩) dX0_equationAt_31
  refine sn_aload_n (y := m_X0_equationAt) (pc := 21) dX0_equationAt_21 rfl ?_
  refine sn_getA (y := m_X0_equationAt) (pc := 22) ca_0 rfl fk_X0_19 (fun _ _ _ => rfl) dX0_equationAt_22 (fun r4 => ?_)
  refine sn_iload_n (y := m_X0_equationAt) (pc := 25) dX0_equationAt_25 rfl ?_
  refine sn_aaload (y := m_X0_equationAt) (pc := 26) dX0_equationAt_26 (fun r5 => ?_)
  refine sn_goto (y := m_X0_equationAt) (pc := 27) (tgt := 31) dX0_equationAt_27 (by decide) ?_
  exact sn_areturn (Or.inl ⟨_, rfl⟩) dX0_equationAt_31
set_option maxRecDepth 100000 in
theorem c_X0_equationAt (g : Gl) (p0 : (Option Nat)) (p1 : Int32) : Cn g m_X0_equationAt eA [vA p0, vI p1] (mCk 0 p0 (f_X0_equationAt p0 p1)) := cn_of_sn (by decide +kernel) rfl (fun r => ⟨r, rfl⟩) rfl (fun _ _ => sn_ck (s_X0_equationAt p0 p1))
/-! X6_cell -/
def f_X6_cell (p0 : (Option Nat)) (p1 : Int32) : Mo Int32 :=
  (if p0 = none then mRt (0 : Int32) else (if p1 < 0 then mRt (0 : Int32) else mBd (mLen p0) (fun r1 => (if p1 ≥ r1 then mRt (0 : Int32) else mBd (mLdI 1 p0 p1) (fun r2 => mRt r2)))))
set_option maxRecDepth 100000 in
theorem s_X6_cell {cx : CX} (p0 : (Option Nat)) (p1 : Int32) : Sn cx m_X6_cell eI 0 [(0, vA p0), (1, vI p1)] [] (f_X6_cell p0 p1) := by
  refine sn_aload_n (y := m_X6_cell) (pc := 0) dX6_cell_0 rfl ?_
  refine sn_ifnull (y := m_X6_cell) (pc := 1) (tgt := 20) dX6_cell_1 (by decide) ?_ ?_
  · refine sn_iconst (y := m_X6_cell) (pc := 20) dX6_cell_20 kc_iconst_0 ?_
    exact sn_ireturn rfl dX6_cell_21
  refine sn_iload_n (y := m_X6_cell) (pc := 4) dX6_cell_4 rfl ?_
  refine sn_if_lt (y := m_X6_cell) (pc := 5) (tgt := 20) dX6_cell_5 (by decide) (fun _ => ?_) (fun _ => ?_)
  · refine sn_iconst (y := m_X6_cell) (pc := 20) dX6_cell_20 kc_iconst_0 ?_
    exact sn_ireturn rfl dX6_cell_21
  refine sn_iload_n (y := m_X6_cell) (pc := 8) dX6_cell_8 rfl ?_
  refine sn_aload_n (y := m_X6_cell) (pc := 9) dX6_cell_9 rfl ?_
  refine sn_alen (y := m_X6_cell) (pc := 10) dX6_cell_10 (fun r1 => ?_)
  refine sn_icmp_ge (y := m_X6_cell) (pc := 11) (tgt := 20) dX6_cell_11 (by decide) (fun _ => ?_) (fun _ => ?_)
  · refine sn_iconst (y := m_X6_cell) (pc := 20) dX6_cell_20 kc_iconst_0 ?_
    exact sn_ireturn rfl dX6_cell_21
  refine sn_aload_n (y := m_X6_cell) (pc := 14) dX6_cell_14 rfl ?_
  refine sn_iload_n (y := m_X6_cell) (pc := 15) dX6_cell_15 rfl ?_
  refine sn_iaload (y := m_X6_cell) (pc := 16) dX6_cell_16 (fun r2 => ?_)
  refine sn_goto (y := m_X6_cell) (pc := 17) (tgt := 21) dX6_cell_17 (by decide) ?_
  exact sn_ireturn rfl dX6_cell_21
set_option maxRecDepth 100000 in
theorem c_X6_cell (g : Gl) (p0 : (Option Nat)) (p1 : Int32) : Cn g m_X6_cell eI [vA p0, vI p1] (f_X6_cell p0 p1) := cn_of_sn (by decide +kernel) rfl (fun r => ⟨r, rfl⟩) rfl (fun _ _ => s_X6_cell p0 p1)
/-! X0_letFieldAt -/
def f_X0_letFieldAt (p0 : (Option Nat)) (p1 : Int32) : Mo Int32 :=
  (if p1 < 0 then mRt (-1 : Int32) else mBd (mGetI 0 9 p0) (fun r1 => (if p1 ≥ r1 then mRt (-1 : Int32) else mBd (mGetA 0 3 p0) (fun r2 => mBd (f_X6_cell r2 p1) (fun r3 => mRt r3)))))
set_option maxRecDepth 100000 in
theorem s_X0_letFieldAt {cx : CX} (p0 : (Option Nat)) (p1 : Int32) : Sn cx m_X0_letFieldAt eI 0 [(0, vA p0), (1, vI p1)] [] (f_X0_letFieldAt p0 p1) := by
  refine sn_iload_n (y := m_X0_letFieldAt) (pc := 0) dX0_letFieldAt_0 rfl ?_
  refine sn_if_lt (y := m_X0_letFieldAt) (pc := 1) (tgt := 23) dX0_letFieldAt_1 (by decide) (fun _ => ?_) (fun _ => ?_)
  · refine sn_iconst (y := m_X0_letFieldAt) (pc := 23) dX0_letFieldAt_23 kc_iconst_m1 ?_
    exact sn_ireturn rfl dX0_letFieldAt_24
  refine sn_iload_n (y := m_X0_letFieldAt) (pc := 4) dX0_letFieldAt_4 rfl ?_
  refine sn_aload_n (y := m_X0_letFieldAt) (pc := 5) dX0_letFieldAt_5 rfl ?_
  refine sn_getI (y := m_X0_letFieldAt) (pc := 6) ca_0 rfl fk_X0_51 (fun _ _ _ => rfl) dX0_letFieldAt_6 (fun r1 => ?_)
  refine sn_icmp_ge (y := m_X0_letFieldAt) (pc := 9) (tgt := 23) dX0_letFieldAt_9 (by decide) (fun _ => ?_) (fun _ => ?_)
  · refine sn_iconst (y := m_X0_letFieldAt) (pc := 23) dX0_letFieldAt_23 kc_iconst_m1 ?_
    exact sn_ireturn rfl dX0_letFieldAt_24
  refine sn_aload_n (y := m_X0_letFieldAt) (pc := 12) dX0_letFieldAt_12 rfl ?_
  refine sn_getA (y := m_X0_letFieldAt) (pc := 13) ca_0 rfl fk_X0_30 (fun _ _ _ => rfl) dX0_letFieldAt_13 (fun r2 => ?_)
  refine sn_iload_n (y := m_X0_letFieldAt) (pc := 16) dX0_letFieldAt_16 rfl ?_
  refine sn_invS (y := m_X0_letFieldAt) (pc := 17) (av := [vA r2, vI p1]) (st := []) dX0_letFieldAt_17 lk_X0_59 sw_X6_cell rfl rfl rfl ⟨by decide, by decide⟩ (c_X6_cell cx.1 r2 p1) (fun r3 => ?_)
  refine sn_goto (y := m_X0_letFieldAt) (pc := 20) (tgt := 24) dX0_letFieldAt_20 (by decide) ?_
  exact sn_ireturn rfl dX0_letFieldAt_24
set_option maxRecDepth 100000 in
theorem c_X0_letFieldAt (g : Gl) (p0 : (Option Nat)) (p1 : Int32) : Cn g m_X0_letFieldAt eI [vA p0, vI p1] (mCk 0 p0 (f_X0_letFieldAt p0 p1)) := cn_of_sn (by decide +kernel) rfl (fun r => ⟨r, rfl⟩) rfl (fun _ _ => sn_ck (s_X0_letFieldAt p0 p1))
