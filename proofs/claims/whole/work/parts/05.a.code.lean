/-! X2_init -/
def f_X2_init (p0 : (Option Nat)) : Mo Unit :=
  mCk 2 p0 (mBd (mNewA 1 (199 : Int32)) (fun r1 => mBd (mPutA 2 0 p0 r1) (fun _ => mBd (mNewA 1 (199 : Int32)) (fun r2 => mBd (mPutA 2 1 p0 r2) (fun _ => mBd (mNewA 1 (199 : Int32)) (fun r3 => mBd (mPutA 2 2 p0 r3) (fun _ => mBd (mPutI 2 3 p0 (0 : Int32)) (fun _ => mBd (mPutI 2 4 p0 (0 : Int32)) (fun _ => mRt ())))))))))
set_option maxRecDepth 100000 in
theorem s_X2_init {cx : CX} (p0 : (Option Nat)) : Sn cx m_X2_init eV 0 [(0, vA p0)] [] (f_X2_init p0) := by
  refine sn_aload_n (y := m_X2_init) (pc := 0) dX2_init_0 rfl ?_
  refine sn_objInit (y := m_X2_init) (pc := 1) oi_X2_3 oi_1 oi_2 dX2_init_1 rfl ⟨by decide, by decide⟩ ?_
  refine sn_aload_n (y := m_X2_init) (pc := 4) dX2_init_4 rfl ?_
  refine sn_sipush (y := m_X2_init) (pc := 5) dX2_init_5 kc_sipush_199 ?_
  refine sn_newarray (y := m_X2_init) (pc := 8) (t := 1) rfl (Or.inl rfl) ac_int dX2_init_8 (fun r1 => ?_)
  refine sn_putA (y := m_X2_init) (pc := 10) ca_2 rfl fk_X2_11 (Or.inr ⟨rfl, rfl, rfl, fkm_X2_11⟩) rfl dX2_init_10 ?_
  refine sn_aload_n (y := m_X2_init) (pc := 13) dX2_init_13 rfl ?_
  refine sn_sipush (y := m_X2_init) (pc := 14) dX2_init_14 kc_sipush_199 ?_
  refine sn_newarray (y := m_X2_init) (pc := 17) (t := 1) rfl (Or.inl rfl) ac_int dX2_init_17 (fun r2 => ?_)
  refine sn_putA (y := m_X2_init) (pc := 19) ca_2 rfl fk_X2_15 (Or.inr ⟨rfl, rfl, rfl, fkm_X2_15⟩) rfl dX2_init_19 ?_
  refine sn_aload_n (y := m_X2_init) (pc := 22) dX2_init_22 rfl ?_
  refine sn_sipush (y := m_X2_init) (pc := 23) dX2_init_23 kc_sipush_199 ?_
  refine sn_newarray (y := m_X2_init) (pc := 26) (t := 1) rfl (Or.inl rfl) ac_int dX2_init_26 (fun r3 => ?_)
  refine sn_putA (y := m_X2_init) (pc := 28) ca_2 rfl fk_X2_18 (Or.inr ⟨rfl, rfl, rfl, fkm_X2_18⟩) rfl dX2_init_28 ?_
  refine sn_aload_n (y := m_X2_init) (pc := 31) dX2_init_31 rfl ?_
  refine sn_iconst (y := m_X2_init) (pc := 32) dX2_init_32 kc_iconst_0 ?_
  refine sn_putI (y := m_X2_init) (pc := 33) ca_2 rfl fk_X2_21 (Or.inl rfl) rfl dX2_init_33 ?_
  refine sn_aload_n (y := m_X2_init) (pc := 36) dX2_init_36 rfl ?_
  refine sn_iconst (y := m_X2_init) (pc := 37) dX2_init_37 kc_iconst_0 ?_
  refine sn_putI (y := m_X2_init) (pc := 38) ca_2 rfl fk_X2_25 (Or.inl rfl) rfl dX2_init_38 ?_
  exact sn_return rfl dX2_init_41
set_option maxRecDepth 100000 in
theorem c_X2_init (g : Gl) (p0 : (Option Nat)) : Cn g m_X2_init eV [vA p0] (mCk 2 p0 (f_X2_init p0)) := cn_of_sn (by decide +kernel) rfl (fun _ => rfl) rfl (fun _ _ => sn_ck (s_X2_init p0))
/-! X1_init -/
def f_X1_init (p0 : (Option Nat)) : Mo Unit :=
  mCk 1 p0 (mBd (mNewA 1 (3 : Int32)) (fun r1 => mBd (mPutA 1 0 p0 r1) (fun _ => mBd (mNewA 1 (3 : Int32)) (fun r2 => mBd (mPutA 1 1 p0 r2) (fun _ => mBd (mNewA 2 (199 : Int32)) (fun r3 => mBd (mPutA 1 2 p0 r3) (fun _ => mBd (mNewA 2 (199 : Int32)) (fun r4 => mBd (mPutA 1 3 p0 r4) (fun _ => mBd (mPutI 1 4 p0 (0 : Int32)) (fun _ => mBd (mPutI 1 5 p0 (0 : Int32)) (fun _ => mBd (mPutI 1 6 p0 (0 : Int32)) (fun _ => mRt ()))))))))))))
set_option maxRecDepth 100000 in
theorem s_X1_init {cx : CX} (p0 : (Option Nat)) : Sn cx m_X1_init eV 0 [(0, vA p0)] [] (f_X1_init p0) := by
  refine sn_aload_n (y := m_X1_init) (pc := 0) dX1_init_0 rfl ?_
  refine sn_objInit (y := m_X1_init) (pc := 1) oi_X1_1 oi_1 oi_2 dX1_init_1 rfl ⟨by decide, by decide⟩ ?_
  refine sn_aload_n (y := m_X1_init) (pc := 4) dX1_init_4 rfl ?_
  refine sn_iconst (y := m_X1_init) (pc := 5) dX1_init_5 kc_iconst_3 ?_
  refine sn_newarray (y := m_X1_init) (pc := 6) (t := 1) rfl (Or.inl rfl) ac_int dX1_init_6 (fun r1 => ?_)
  refine sn_putA (y := m_X1_init) (pc := 8) ca_1 rfl fk_X1_9 (Or.inr ⟨rfl, rfl, rfl, fkm_X1_9⟩) rfl dX1_init_8 ?_
  refine sn_aload_n (y := m_X1_init) (pc := 11) dX1_init_11 rfl ?_
  refine sn_iconst (y := m_X1_init) (pc := 12) dX1_init_12 kc_iconst_3 ?_
  refine sn_newarray (y := m_X1_init) (pc := 13) (t := 1) rfl (Or.inl rfl) ac_int dX1_init_13 (fun r2 => ?_)
  refine sn_putA (y := m_X1_init) (pc := 15) ca_1 rfl fk_X1_13 (Or.inr ⟨rfl, rfl, rfl, fkm_X1_13⟩) rfl dX1_init_15 ?_
  refine sn_aload_n (y := m_X1_init) (pc := 18) dX1_init_18 rfl ?_
  refine sn_sipush (y := m_X1_init) (pc := 19) dX1_init_19 kc_sipush_199 ?_
  refine sn_newarray (y := m_X1_init) (pc := 22) (t := 2) rfl (Or.inr (Or.inl rfl)) ac_long dX1_init_22 (fun r3 => ?_)
  refine sn_putA (y := m_X1_init) (pc := 24) ca_1 rfl fk_X1_18 (Or.inr ⟨rfl, rfl, rfl, fkm_X1_18⟩) rfl dX1_init_24 ?_
  refine sn_aload_n (y := m_X1_init) (pc := 27) dX1_init_27 rfl ?_
  refine sn_sipush (y := m_X1_init) (pc := 28) dX1_init_28 kc_sipush_199 ?_
  refine sn_newarray (y := m_X1_init) (pc := 31) (t := 2) rfl (Or.inr (Or.inl rfl)) ac_long dX1_init_31 (fun r4 => ?_)
  refine sn_putA (y := m_X1_init) (pc := 33) ca_1 rfl fk_X1_22 (Or.inr ⟨rfl, rfl, rfl, fkm_X1_22⟩) rfl dX1_init_33 ?_
  refine sn_aload_n (y := m_X1_init) (pc := 36) dX1_init_36 rfl ?_
  refine sn_iconst (y := m_X1_init) (pc := 37) dX1_init_37 kc_iconst_0 ?_
  refine sn_putI (y := m_X1_init) (pc := 38) ca_1 rfl fk_X1_25 (Or.inl rfl) rfl dX1_init_38 ?_
  refine sn_aload_n (y := m_X1_init) (pc := 41) dX1_init_41 rfl ?_
  refine sn_iconst (y := m_X1_init) (pc := 42) dX1_init_42 kc_iconst_0 ?_
  refine sn_putI (y := m_X1_init) (pc := 43) ca_1 rfl fk_X1_29 (Or.inl rfl) rfl dX1_init_43 ?_
  refine sn_aload_n (y := m_X1_init) (pc := 46) dX1_init_46 rfl ?_
  refine sn_iconst (y := m_X1_init) (pc := 47) dX1_init_47 kc_iconst_0 ?_
  refine sn_putI (y := m_X1_init) (pc := 48) ca_1 rfl fk_X1_32 (Or.inl rfl) rfl dX1_init_48 ?_
  exact sn_return rfl dX1_init_51
set_option maxRecDepth 100000 in
theorem c_X1_init (g : Gl) (p0 : (Option Nat)) : Cn g m_X1_init eV [vA p0] (mCk 1 p0 (f_X1_init p0)) := cn_of_sn (by decide +kernel) rfl (fun _ => rfl) rfl (fun _ _ => sn_ck (s_X1_init p0))
/-! X0_init -/
def f_X0_init_b116 (x0 : (Option Nat)) (k116 : Int32 → Mo Unit) (x1 : Int32) : Mo Unit :=
  mBd (mGetA 0 1 x0) (fun r10 => mBd (mLen r10) (fun r11 => (if x1 ≥ r11 then mRt () else mBd (mGetA 0 1 x0) (fun r12 => mBd (mNew 1) (fun r13 => mBd (mCk 1 r13 (f_X1_init r13)) (fun _ => mBd (mStA 5 r12 x1 r13) (fun _ => k116 (x1 + 1))))))))
def f_X0_init_l116 (x0 : (Option Nat)) : Int32 → Mo Unit := lq1 (f_X0_init_b116 x0) fuel
set_option maxRecDepth 100000 in
theorem s_X0_init_b116 {cx : CX} (x0 : (Option Nat)) {k116 : Int32 → Mo Unit} (hk116 : ∀ (z1 : Int32), Sn cx m_X0_init eV 116 [(1, vI z1), (0, vA x0)] [] (k116 z1)) (x1 : Int32) : Sn cx m_X0_init eV 116 [(1, vI x1), (0, vA x0)] [] (f_X0_init_b116 x0 k116 x1) := by
  refine sn_iload_n (y := m_X0_init) (pc := 116) dX0_init_116 rfl ?_
  refine sn_aload_n (y := m_X0_init) (pc := 117) dX0_init_117 rfl ?_
  refine sn_getA (y := m_X0_init) (pc := 118) ca_0 rfl fk_X0_19 (fun _ _ _ => rfl) dX0_init_118 (fun r10 => ?_)
  refine sn_alen (y := m_X0_init) (pc := 121) dX0_init_121 (fun r11 => ?_)
  refine sn_icmp_ge (y := m_X0_init) (pc := 122) (tgt := 144) dX0_init_122 (by decide) (fun _ => ?_) (fun _ => ?_)
  · exact sn_return rfl dX0_init_144
  refine sn_aload_n (y := m_X0_init) (pc := 125) dX0_init_125 rfl ?_
  refine sn_getA (y := m_X0_init) (pc := 126) ca_0 rfl fk_X0_19 (fun _ _ _ => rfl) dX0_init_126 (fun r12 => ?_)
  refine sn_iload_n (y := m_X0_init) (pc := 129) dX0_init_129 rfl ?_
  refine sn_new (y := m_X0_init) (pc := 130) ca_1 nk_X0_17 dX0_init_130 (fun r13 => ?_)
  refine sn_dup (y := m_X0_init) (pc := 133) rfl dX0_init_133 ?_
  refine sn_invI (y := m_X0_init) (pc := 134) (c := 1) (av := []) (o := r13) (st := [vA r13, vI x1, vA r12]) dX0_init_134 (Or.inl lk_X0_58) im_X1_init rfl rfl rfl rfl rfl ⟨by decide, by decide⟩ (c_X1_init cx.1 r13) (fun _ => ?_)
  refine sn_aastore (y := m_X0_init) (pc := 137) dX0_init_137 ?_
  refine sn_iinc (y := m_X0_init) (pc := 138) (v := x1 + 1) dX0_init_138 rfl (by rfl) rfl ?_
  refine sn_goto (y := m_X0_init) (pc := 141) (tgt := 116) dX0_init_141 (by decide) ?_
  exact sn_sub rfl (hk116 (x1 + 1))
set_option maxRecDepth 100000 in
theorem s_X0_init_l116 {cx : CX} (x0 : (Option Nat)) (x1 : Int32) : Sn cx m_X0_init eV 116 [(1, vI x1), (0, vA x0)] [] (f_X0_init_l116 x0 x1) :=
  sn_lq1 (L := fun x1 => [(1, vI x1), (0, vA x0)]) (fun k hk x1 => s_X0_init_b116 x0 hk x1) fuel x1
def f_X0_init_b86 (x0 : (Option Nat)) (k86 : Int32 → Mo Unit) (x1 : Int32) : Mo Unit :=
  mBd (mGetA 0 0 x0) (fun r8 => mBd (mLen r8) (fun r9 => (if x1 ≥ r9 then f_X0_init_l116 x0 (0 : Int32) else mBd (mGetA 0 0 x0) (fun r14 => mBd (mNew 2) (fun r15 => mBd (mCk 2 r15 (f_X2_init r15)) (fun _ => mBd (mStA 4 r14 x1 r15) (fun _ => k86 (x1 + 1))))))))
def f_X0_init_l86 (x0 : (Option Nat)) : Int32 → Mo Unit := lq1 (f_X0_init_b86 x0) fuel
set_option maxRecDepth 100000 in
theorem s_X0_init_b86 {cx : CX} (x0 : (Option Nat)) {k86 : Int32 → Mo Unit} (hk86 : ∀ (z1 : Int32), Sn cx m_X0_init eV 86 [(1, vI z1), (0, vA x0)] [] (k86 z1)) (x1 : Int32) : Sn cx m_X0_init eV 86 [(1, vI x1), (0, vA x0)] [] (f_X0_init_b86 x0 k86 x1) := by
  refine sn_iload_n (y := m_X0_init) (pc := 86) dX0_init_86 rfl ?_
  refine sn_aload_n (y := m_X0_init) (pc := 87) dX0_init_87 rfl ?_
  refine sn_getA (y := m_X0_init) (pc := 88) ca_0 rfl fk_X0_13 (fun _ _ _ => rfl) dX0_init_88 (fun r8 => ?_)
  refine sn_alen (y := m_X0_init) (pc := 91) dX0_init_91 (fun r9 => ?_)
  refine sn_icmp_ge (y := m_X0_init) (pc := 92) (tgt := 114) dX0_init_92 (by decide) (fun _ => ?_) (fun _ => ?_)
  · refine sn_iconst (y := m_X0_init) (pc := 114) dX0_init_114 kc_iconst_0 ?_
    refine sn_istore_n (y := m_X0_init) (pc := 115) dX0_init_115 rfl ?_
    exact sn_sub rfl (s_X0_init_l116 x0 (0 : Int32))
  refine sn_aload_n (y := m_X0_init) (pc := 95) dX0_init_95 rfl ?_
  refine sn_getA (y := m_X0_init) (pc := 96) ca_0 rfl fk_X0_13 (fun _ _ _ => rfl) dX0_init_96 (fun r14 => ?_)
  refine sn_iload_n (y := m_X0_init) (pc := 99) dX0_init_99 rfl ?_
  refine sn_new (y := m_X0_init) (pc := 100) ca_2 nk_X0_11 dX0_init_100 (fun r15 => ?_)
  refine sn_dup (y := m_X0_init) (pc := 103) rfl dX0_init_103 ?_
  refine sn_invI (y := m_X0_init) (pc := 104) (c := 2) (av := []) (o := r15) (st := [vA r15, vI x1, vA r14]) dX0_init_104 (Or.inl lk_X0_57) im_X2_init rfl rfl rfl rfl rfl ⟨by decide, by decide⟩ (c_X2_init cx.1 r15) (fun _ => ?_)
  refine sn_aastore (y := m_X0_init) (pc := 107) dX0_init_107 ?_
  refine sn_iinc (y := m_X0_init) (pc := 108) (v := x1 + 1) dX0_init_108 rfl (by rfl) rfl ?_
  refine sn_goto (y := m_X0_init) (pc := 111) (tgt := 86) dX0_init_111 (by decide) ?_
  exact sn_sub rfl (hk86 (x1 + 1))
set_option maxRecDepth 100000 in
theorem s_X0_init_l86 {cx : CX} (x0 : (Option Nat)) (x1 : Int32) : Sn cx m_X0_init eV 86 [(1, vI x1), (0, vA x0)] [] (f_X0_init_l86 x0 x1) :=
  sn_lq1 (L := fun x1 => [(1, vI x1), (0, vA x0)]) (fun k hk x1 => s_X0_init_b86 x0 hk x1) fuel x1
def f_X0_init (p0 : (Option Nat)) : Mo Unit :=
  mCk 0 p0 (mBd (mNewA 4 (4 : Int32)) (fun r1 => mBd (mPutA 0 0 p0 r1) (fun _ => mBd (mNewA 5 (4 : Int32)) (fun r2 => mBd (mPutA 0 1 p0 r2) (fun _ => mBd (mNewM (8 : Int32) (10 : Int32)) (fun r3 => mBd (mPutA 0 2 p0 r3) (fun _ => mBd (mNewA 1 (8 : Int32)) (fun r4 => mBd (mPutA 0 3 p0 r4) (fun _ => mBd (mNewA 2 (16 : Int32)) (fun r5 => mBd (mPutA 0 4 p0 r5) (fun _ => mBd (mNewA 1 (16 : Int32)) (fun r6 => mBd (mPutA 0 5 p0 r6) (fun _ => mBd (mNewA 1 (16 : Int32)) (fun r7 => mBd (mPutA 0 6 p0 r7) (fun _ => mBd (mPutI 0 7 p0 (0 : Int32)) (fun _ => mBd (mPutI 0 8 p0 (0 : Int32)) (fun _ => mBd (mPutI 0 9 p0 (0 : Int32)) (fun _ => mBd (mPutI 0 10 p0 (0 : Int32)) (fun _ => f_X0_init_l86 p0 (0 : Int32))))))))))))))))))))
set_option maxRecDepth 100000 in
theorem s_X0_init {cx : CX} (p0 : (Option Nat)) : Sn cx m_X0_init eV 0 [(0, vA p0)] [] (f_X0_init p0) := by
  refine sn_aload_n (y := m_X0_init) (pc := 0) dX0_init_0 rfl ?_
  refine sn_objInit (y := m_X0_init) (pc := 1) oi_X0_3 oi_1 oi_2 dX0_init_1 rfl ⟨by decide, by decide⟩ ?_
  refine sn_aload_n (y := m_X0_init) (pc := 4) dX0_init_4 rfl ?_
  refine sn_iconst (y := m_X0_init) (pc := 5) dX0_init_5 kc_iconst_4 ?_
  refine sn_anewarray (y := m_X0_init) (pc := 6) (t := 4) rfl (Or.inl rfl) cl_X0_11 dX0_init_6 (fun r1 => ?_)
  refine sn_putA (y := m_X0_init) (pc := 9) ca_0 rfl fk_X0_13 (Or.inr ⟨rfl, rfl, rfl, fkm_X0_13⟩) rfl dX0_init_9 ?_
  refine sn_aload_n (y := m_X0_init) (pc := 12) dX0_init_12 rfl ?_
  refine sn_iconst (y := m_X0_init) (pc := 13) dX0_init_13 kc_iconst_4 ?_
  refine sn_anewarray (y := m_X0_init) (pc := 14) (t := 5) rfl (Or.inr (Or.inl rfl)) cl_X0_17 dX0_init_14 (fun r2 => ?_)
  refine sn_putA (y := m_X0_init) (pc := 17) ca_0 rfl fk_X0_19 (Or.inr ⟨rfl, rfl, rfl, fkm_X0_19⟩) rfl dX0_init_17 ?_
  refine sn_aload_n (y := m_X0_init) (pc := 20) dX0_init_20 rfl ?_
  refine sn_bipush (y := m_X0_init) (pc := 21) dX0_init_21 kc_bipush_8 ?_
  refine sn_bipush (y := m_X0_init) (pc := 23) dX0_init_23 kc_bipush_10 ?_
  refine sn_mnew (y := m_X0_init) (pc := 25) cl_X0_25 ac_long dX0_init_25 (fun r3 => ?_)
  refine sn_putA (y := m_X0_init) (pc := 29) ca_0 rfl fk_X0_27 (Or.inr ⟨rfl, rfl, rfl, fkm_X0_27⟩) rfl dX0_init_29 ?_
  refine sn_aload_n (y := m_X0_init) (pc := 32) dX0_init_32 rfl ?_
  refine sn_bipush (y := m_X0_init) (pc := 33) dX0_init_33 kc_bipush_8 ?_
  refine sn_newarray (y := m_X0_init) (pc := 35) (t := 1) rfl (Or.inl rfl) ac_int dX0_init_35 (fun r4 => ?_)
  refine sn_putA (y := m_X0_init) (pc := 37) ca_0 rfl fk_X0_30 (Or.inr ⟨rfl, rfl, rfl, fkm_X0_30⟩) rfl dX0_init_37 ?_
  refine sn_aload_n (y := m_X0_init) (pc := 40) dX0_init_40 rfl ?_
  refine sn_bipush (y := m_X0_init) (pc := 41) dX0_init_41 kc_bipush_16 ?_
  refine sn_newarray (y := m_X0_init) (pc := 43) (t := 2) rfl (Or.inr (Or.inl rfl)) ac_long dX0_init_43 (fun r5 => ?_)
  refine sn_putA (y := m_X0_init) (pc := 45) ca_0 rfl fk_X0_34 (Or.inr ⟨rfl, rfl, rfl, fkm_X0_34⟩) rfl dX0_init_45 ?_
  refine sn_aload_n (y := m_X0_init) (pc := 48) dX0_init_48 rfl ?_
  refine sn_bipush (y := m_X0_init) (pc := 49) dX0_init_49 kc_bipush_16 ?_
  refine sn_newarray (y := m_X0_init) (pc := 51) (t := 1) rfl (Or.inl rfl) ac_int dX0_init_51 (fun r6 => ?_)
  refine sn_putA (y := m_X0_init) (pc := 53) ca_0 rfl fk_X0_38 (Or.inr ⟨rfl, rfl, rfl, fkm_X0_38⟩) rfl dX0_init_53 ?_
  refine sn_aload_n (y := m_X0_init) (pc := 56) dX0_init_56 rfl ?_
  refine sn_bipush (y := m_X0_init) (pc := 57) dX0_init_57 kc_bipush_16 ?_
  refine sn_newarray (y := m_X0_init) (pc := 59) (t := 1) rfl (Or.inl rfl) ac_int dX0_init_59 (fun r7 => ?_)
  refine sn_putA (y := m_X0_init) (pc := 61) ca_0 rfl fk_X0_41 (Or.inr ⟨rfl, rfl, rfl, fkm_X0_41⟩) rfl dX0_init_61 ?_
  refine sn_aload_n (y := m_X0_init) (pc := 64) dX0_init_64 rfl ?_
  refine sn_iconst (y := m_X0_init) (pc := 65) dX0_init_65 kc_iconst_0 ?_
  refine sn_putI (y := m_X0_init) (pc := 66) ca_0 rfl fk_X0_44 (Or.inl rfl) rfl dX0_init_66 ?_
  refine sn_aload_n (y := m_X0_init) (pc := 69) dX0_init_69 rfl ?_
  refine sn_iconst (y := m_X0_init) (pc := 70) dX0_init_70 kc_iconst_0 ?_
  refine sn_putI (y := m_X0_init) (pc := 71) ca_0 rfl fk_X0_48 (Or.inl rfl) rfl dX0_init_71 ?_
  refine sn_aload_n (y := m_X0_init) (pc := 74) dX0_init_74 rfl ?_
  refine sn_iconst (y := m_X0_init) (pc := 75) dX0_init_75 kc_iconst_0 ?_
  refine sn_putI (y := m_X0_init) (pc := 76) ca_0 rfl fk_X0_51 (Or.inl rfl) rfl dX0_init_76 ?_
  refine sn_aload_n (y := m_X0_init) (pc := 79) dX0_init_79 rfl ?_
  refine sn_iconst (y := m_X0_init) (pc := 80) dX0_init_80 kc_iconst_0 ?_
  refine sn_putI (y := m_X0_init) (pc := 81) ca_0 rfl fk_X0_54 (Or.inl rfl) rfl dX0_init_81 ?_
  refine sn_iconst (y := m_X0_init) (pc := 84) dX0_init_84 kc_iconst_0 ?_
  refine sn_istore_n (y := m_X0_init) (pc := 85) dX0_init_85 rfl ?_
  exact sn_sub rfl (s_X0_init_l86 p0 (0 : Int32))
set_option maxRecDepth 100000 in
theorem c_X0_init (g : Gl) (p0 : (Option Nat)) : Cn g m_X0_init eV [vA p0] (mCk 0 p0 (f_X0_init p0)) := cn_of_sn (by decide +kernel) rfl (fun _ => rfl) rfl (fun _ _ => sn_ck (s_X0_init p0))
/-! X0_empty -/
def f_X0_empty (p0 : (Option Nat)) : Mo Unit :=
  mBd (mPutI 0 7 p0 (0 : Int32)) (fun _ => mBd (mPutI 0 8 p0 (0 : Int32)) (fun _ => mBd (mPutI 0 9 p0 (0 : Int32)) (fun _ => mBd (mPutI 0 10 p0 (0 : Int32)) (fun _ => mRt ()))))
set_option maxRecDepth 100000 in
theorem s_X0_empty {cx : CX} (p0 : (Option Nat)) : Sn cx m_X0_empty eV 0 [(0, vA p0)] [] (f_X0_empty p0) := by
  refine sn_aload_n (y := m_X0_empty) (pc := 0) dX0_empty_0 rfl ?_
  refine sn_iconst (y := m_X0_empty) (pc := 1) dX0_empty_1 kc_iconst_0 ?_
  refine sn_putI (y := m_X0_empty) (pc := 2) ca_0 rfl fk_X0_44 (Or.inl rfl) rfl dX0_empty_2 ?_
  refine sn_aload_n (y := m_X0_empty) (pc := 5) dX0_empty_5 rfl ?_
  refine sn_iconst (y := m_X0_empty) (pc := 6) dX0_empty_6 kc_iconst_0 ?_
  refine sn_putI (y := m_X0_empty) (pc := 7) ca_0 rfl fk_X0_48 (Or.inl rfl) rfl dX0_empty_7 ?_
  refine sn_aload_n (y := m_X0_empty) (pc := 10) dX0_empty_10 rfl ?_
  refine sn_iconst (y := m_X0_empty) (pc := 11) dX0_empty_11 kc_iconst_0 ?_
  refine sn_putI (y := m_X0_empty) (pc := 12) ca_0 rfl fk_X0_51 (Or.inl rfl) rfl dX0_empty_12 ?_
  refine sn_aload_n (y := m_X0_empty) (pc := 15) dX0_empty_15 rfl ?_
  refine sn_iconst (y := m_X0_empty) (pc := 16) dX0_empty_16 kc_iconst_0 ?_
  refine sn_putI (y := m_X0_empty) (pc := 17) ca_0 rfl fk_X0_54 (Or.inl rfl) rfl dX0_empty_17 ?_
  exact sn_return rfl dX0_empty_20
set_option maxRecDepth 100000 in
theorem c_X0_empty (g : Gl) (p0 : (Option Nat)) : Cn g m_X0_empty eV [vA p0] (mCk 0 p0 (f_X0_empty p0)) := cn_of_sn (by decide +kernel) rfl (fun _ => rfl) rfl (fun _ _ => sn_ck (s_X0_empty p0))
/-! X0_fieldsHeld -/
def f_X0_fieldsHeld (p0 : (Option Nat)) : Mo Int32 :=
  mBd (mGetI 0 7 p0) (fun r1 => mRt r1)
set_option maxRecDepth 100000 in
theorem s_X0_fieldsHeld {cx : CX} (p0 : (Option Nat)) : Sn cx m_X0_fieldsHeld eI 0 [(0, vA p0)] [] (f_X0_fieldsHeld p0) := by
  refine sn_aload_n (y := m_X0_fieldsHeld) (pc := 0) dX0_fieldsHeld_0 rfl ?_
  refine sn_getI (y := m_X0_fieldsHeld) (pc := 1) ca_0 rfl fk_X0_44 (fun _ _ _ => rfl) dX0_fieldsHeld_1 (fun r1 => ?_)
  exact sn_ireturn rfl dX0_fieldsHeld_4
set_option maxRecDepth 100000 in
theorem c_X0_fieldsHeld (g : Gl) (p0 : (Option Nat)) : Cn g m_X0_fieldsHeld eI [vA p0] (mCk 0 p0 (f_X0_fieldsHeld p0)) := cn_of_sn (by decide +kernel) rfl (fun r => ⟨r, rfl⟩) rfl (fun _ _ => sn_ck (s_X0_fieldsHeld p0))
/-! X0_equationsHeld -/
def f_X0_equationsHeld (p0 : (Option Nat)) : Mo Int32 :=
  mBd (mGetI 0 8 p0) (fun r1 => mRt r1)
set_option maxRecDepth 100000 in
theorem s_X0_equationsHeld {cx : CX} (p0 : (Option Nat)) : Sn cx m_X0_equationsHeld eI 0 [(0, vA p0)] [] (f_X0_equationsHeld p0) := by
  refine sn_aload_n (y := m_X0_equationsHeld) (pc := 0) dX0_equationsHeld_0 rfl ?_
  refine sn_getI (y := m_X0_equationsHeld) (pc := 1) ca_0 rfl fk_X0_48 (fun _ _ _ => rfl) dX0_equationsHeld_1 (fun r1 => ?_)
  exact sn_ireturn rfl dX0_equationsHeld_4
set_option maxRecDepth 100000 in
theorem c_X0_equationsHeld (g : Gl) (p0 : (Option Nat)) : Cn g m_X0_equationsHeld eI [vA p0] (mCk 0 p0 (f_X0_equationsHeld p0)) := cn_of_sn (by decide +kernel) rfl (fun r => ⟨r, rfl⟩) rfl (fun _ _ => sn_ck (s_X0_equationsHeld p0))
/-! X0_letsHeld -/
def f_X0_letsHeld (p0 : (Option Nat)) : Mo Int32 :=
  mBd (mGetI 0 9 p0) (fun r1 => mRt r1)
set_option maxRecDepth 100000 in
theorem s_X0_letsHeld {cx : CX} (p0 : (Option Nat)) : Sn cx m_X0_letsHeld eI 0 [(0, vA p0)] [] (f_X0_letsHeld p0) := by
  refine sn_aload_n (y := m_X0_letsHeld) (pc := 0) dX0_letsHeld_0 rfl ?_
  refine sn_getI (y := m_X0_letsHeld) (pc := 1) ca_0 rfl fk_X0_51 (fun _ _ _ => rfl) dX0_letsHeld_1 (fun r1 => ?_)
  exact sn_ireturn rfl dX0_letsHeld_4
set_option maxRecDepth 100000 in
theorem c_X0_letsHeld (g : Gl) (p0 : (Option Nat)) : Cn g m_X0_letsHeld eI [vA p0] (mCk 0 p0 (f_X0_letsHeld p0)) := cn_of_sn (by decide +kernel) rfl (fun r => ⟨r, rfl⟩) rfl (fun _ _ => sn_ck (s_X0_letsHeld p0))
/-! X0_fieldAt -/
def f_X0_fieldAt (p0 : (Option Nat)) (p1 : Int32) : Mo (Option Nat) :=
  (if p1 < 0 then mRt none else mBd (mGetI 0 7 p0) (fun r1 => (if p1 ≥ r1 then mRt none else mBd (mGetA 0 0 p0) (fun r2 => mBd (mLen r2) (fun r3 => (if p1 ≥ r3 then mRt none else mBd (mGetA 0 0 p0) (fun r4 => mBd (mLdA 4 r4 p1) (fun r5 => mRt r5))))))))
set_option maxRecDepth 100000 in
theorem s_X0_fieldAt {cx : CX} (p0 : (Option Nat)) (p1 : Int32) : Sn cx m_X0_fieldAt eA 0 [(0, vA p0), (1, vI p1)] [] (f_X0_fieldAt p0 p1) := by
  refine sn_iload_n (y := m_X0_fieldAt) (pc := 0) dX0_fieldAt_0 rfl ?_
  refine sn_if_lt (y := m_X0_fieldAt) (pc := 1) (tgt := 30) dX0_fieldAt_1 (by decide) (fun _ => ?_) (fun _ => ?_)
  · refine sn_anull (y := m_X0_fieldAt) (pc := 30) dX0_fieldAt_30 ?_
    exact sn_areturn (Or.inl ⟨_, rfl⟩) dX0_fieldAt_31
  refine sn_iload_n (y := m_X0_fieldAt) (pc := 4) dX0_fieldAt_4 rfl ?_
  refine sn_aload_n (y := m_X0_fieldAt) (pc := 5) dX0_fieldAt_5 rfl ?_
  refine sn_getI (y := m_X0_fieldAt) (pc := 6) ca_0 rfl fk_X0_44 (fun _ _ _ => rfl) dX0_fieldAt_6 (fun r1 => ?_)
  refine sn_icmp_ge (y := m_X0_fieldAt) (pc := 9) (tgt := 30) dX0_fieldAt_9 (by decide) (fun _ => ?_) (fun _ => ?_)
  · refine sn_anull (y := m_X0_fieldAt) (pc := 30) dX0_fieldAt_30 ?_
    exact sn_areturn (Or.inl ⟨_, rfl⟩) dX0_fieldAt_31
  refine sn_iload_n (y := m_X0_fieldAt) (pc := 12) dX0_fieldAt_12 rfl ?_
  refine sn_aload_n (y := m_X0_fieldAt) (pc := 13) dX0_fieldAt_13 rfl ?_
  refine sn_getA (y := m_X0_fieldAt) (pc := 14) ca_0 rfl fk_X0_13 (fun _ _ _ => rfl) dX0_fieldAt_14 (fun r2 => ?_)
  refine sn_alen (y := m_X0_fieldAt) (pc := 17) dX0_fieldAt_17 (fun r3 => ?_)
  refine sn_icmp_ge (y := m_X0_fieldAt) (pc := 18) (tgt := 30) dX0_fieldAt_18 (by decide) (fun _ => ?_) (fun _ => ?_)
  · refine sn_anull (y := m_X0_fieldAt) (pc := 30) dX0_fieldAt_30 ?_
    exact sn_areturn (Or.inl ⟨_, rfl⟩) dX0_fieldAt_31
  refine sn_aload_n (y := m_X0_fieldAt) (pc := 21) dX0_fieldAt_21 rfl ?_
  refine sn_getA (y := m_X0_fieldAt) (pc := 22) ca_0 rfl fk_X0_13 (fun _ _ _ => rfl) dX0_fieldAt_22 (fun r4 => ?_)
  refine sn_iload_n (y := m_X0_fieldAt) (pc := 25) dX0_fieldAt_25 rfl ?_
  refine sn_aaload (y := m_X0_fieldAt) (pc := 26) dX0_fieldAt_26 (fun r5 => ?_)
  refine sn_goto (y := m_X0_fieldAt) (pc := 27) (tgt := 31) dX0_fieldAt_27 (by decide) ?_
  exact sn_areturn (Or.inl ⟨_, rfl⟩) dX0_fieldAt_31
set_option maxRecDepth 100000 in
theorem c_X0_fieldAt (g : Gl) (p0 : (Option Nat)) (p1 : Int32) : Cn g m_X0_fieldAt eA [vA p0, vI p1] (mCk 0 p0 (f_X0_fieldAt p0 p1)) := cn_of_sn (by decide +kernel) rfl (fun r => ⟨r, rfl⟩) rfl (fun _ _ => sn_ck (s_X0_fieldAt p0 p1))
/-! X0_equationAt -/
def f_X0_equationAt (p0 : (Option Nat)) (p1 : Int32) : Mo (Option Nat) :=
  (if p1 < 0 then mRt none else mBd (mGetI 0 8 p0) (fun r1 => (if p1 ≥ r1 then mRt none else mBd (mGetA 0 1 p0) (fun r2 => mBd (mLen r2) (fun r3 => (if p1 ≥ r3 then mRt none else mBd (mGetA 0 1 p0) (fun r4 => mBd (mLdA 5 r4 p1) (fun r5 => mRt r5))))))))
set_option maxRecDepth 100000 in
theorem s_X0_equationAt {cx : CX} (p0 : (Option Nat)) (p1 : Int32) : Sn cx m_X0_equationAt eA 0 [(0, vA p0), (1, vI p1)] [] (f_X0_equationAt p0 p1) := by
  refine sn_iload_n (y := m_X0_equationAt) (pc := 0) dX0_equationAt_0 rfl ?_
  refine sn_if_lt (y := m_X0_equationAt) (pc := 1) (tgt := 30) dX0_equationAt_1 (by decide) (fun _ => ?_) (fun _ => ?_)
  · refine sn_anull (y := m_X0_equationAt) (pc := 30) dX0_equationAt_30 ?_
    exact sn_areturn (Or.inl ⟨_, rfl⟩) dX0_equationAt_31
  refine sn_iload_n (y := m_X0_equationAt) (pc := 4) dX0_equationAt_4 rfl ?_
  refine sn_aload_n (y := m_X0_equationAt) (pc := 5) dX0_equationAt_5 rfl ?_
  refine sn_getI (y := m_X0_equationAt) (pc := 6) ca_0 rfl fk_X0_48 (fun _ _ _ => rfl) dX0_equationAt_6 (fun r1 => ?_)
  refine sn_icmp_ge (y := m_X0_equationAt) (pc := 9) (tgt := 30) dX0_equationAt_9 (by decide) (fun _ => ?_) (fun _ => ?_)
  · refine sn_anull (y := m_X0_equationAt) (pc := 30) dX0_equationAt_30 ?_
    exact sn_areturn (Or.inl ⟨_, rfl⟩) dX0_equationAt_31
  refine sn_iload_n (y := m_X0_equationAt) (pc := 12) dX0_equationAt_12 rfl ?_
  refine sn_aload_n (y := m_X0_equationAt) (pc := 13) dX0_equationAt_13 rfl ?_
  refine sn_getA (y := m_X0_equationAt) (pc := 14) ca_0 rfl fk_X0_19 (fun _ _ _ => rfl) dX0_equationAt_14 (fun r2 => ?_)
  refine sn_alen (y := m_X0_equationAt) (pc := 17) dX0_equationAt_17 (fun r3 => ?_)
  refine sn_icmp_ge (y := m_X0_equationAt) (pc := 18) (tgt := 30) dX0_equationAt_18 (by decide) (fun _ => ?_) (fun _ => ?_)
  · refine sn_anull (y := m_X0_equationAt) (pc := 30) dX0_equationAt_30 ?_
    exact sn_areturn (Or.inl ⟨_, rfl⟩) dX0_equationAt_31
  refine sn_aload_n (y := m_X0_equationAt) (pc := 21) dX0_equationAt_21 rfl ?_
  refine sn_getA (y := m_X0_equationAt) (pc := 22) ca_0 rfl fk_X0_19 (fun _ _ _ => rfl) dX0_equationAt_22 (fun r4 => ?_)
  refine sn_iload_n (y := m_X0_equationAt) (pc := 25) dX0_equationAt_25 rfl ?_
  refine sn_aaload (y := m_X0_equationAt) (pc := 26) dX0_equationAt_26 (fun r5 => ?_)
  refine sn_goto (y := m_X0_equationAt) (pc := 27) (tgt := 31) dX0_equationAt_27 (by decide) ?_
  exact sn_areturn (Or.inl ⟨_, rfl⟩) dX0_equationAt_31
set_option maxRecDepth 100000 in
theorem c_X0_equationAt (g : Gl) (p0 : (Option Nat)) (p1 : Int32) : Cn g m_X0_equationAt eA [vA p0, vI p1] (mCk 0 p0 (f_X0_equationAt p0 p1)) := cn_of_sn (by decide +kernel) rfl (fun r => ⟨r, rfl⟩) rfl (fun _ _ => sn_ck (s_X0_equationAt p0 p1))
/-! X6_cell -/
def f_X6_cell (p0 : (Option Nat)) (p1 : Int32) : Mo Int32 :=
  (if p0 = none then mRt (0 : Int32) else (if p1 < 0 then mRt (0 : Int32) else mBd (mLen p0) (fun r1 => (if p1 ≥ r1 then mRt (0 : Int32) else mBd (mLdI 1 p0 p1) (fun r2 => mRt r2)))))
set_option maxRecDepth 100000 in
theorem s_X6_cell {cx : CX} (p0 : (Option Nat)) (p1 : Int32) : Sn cx m_X6_cell eI 0 [(0, vA p0), (1, vI p1)] [] (f_X6_cell p0 p1) := by
  refine sn_aload_n (y := m_X6_cell) (pc := 0) dX6_cell_0 rfl ?_
  refine sn_ifnull (y := m_X6_cell) (pc := 1) (tgt := 20) dX6_cell_1 (by decide) ?_ ?_
  · refine sn_iconst (y := m_X6_cell) (pc := 20) dX6_cell_20 kc_iconst_0 ?_
    exact sn_ireturn rfl dX6_cell_21
  refine sn_iload_n (y := m_X6_cell) (pc := 4) dX6_cell_4 rfl ?_
  refine sn_if_lt (y := m_X6_cell) (pc := 5) (tgt := 20) dX6_cell_5 (by decide) (fun _ => ?_) (fun _ => ?_)
  · refine sn_iconst (y := m_X6_cell) (pc := 20) dX6_cell_20 kc_iconst_0 ?_
    exact sn_ireturn rfl dX6_cell_21
  refine sn_iload_n (y := m_X6_cell) (pc := 8) dX6_cell_8 rfl ?_
  refine sn_aload_n (y := m_X6_cell) (pc := 9) dX6_cell_9 rfl ?_
  refine sn_alen (y := m_X6_cell) (pc := 10) dX6_cell_10 (fun r1 => ?_)
  refine sn_icmp_ge (y := m_X6_cell) (pc := 11) (tgt := 20) dX6_cell_11 (by decide) (fun _ => ?_) (fun _ => ?_)
  · refine sn_iconst (y := m_X6_cell) (pc := 20) dX6_cell_20 kc_iconst_0 ?_
    exact sn_ireturn rfl dX6_cell_21
  refine sn_aload_n (y := m_X6_cell) (pc := 14) dX6_cell_14 rfl ?_
  refine sn_iload_n (y := m_X6_cell) (pc := 15) dX6_cell_15 rfl ?_
  refine sn_iaload (y := m_X6_cell) (pc := 16) dX6_cell_16 (fun r2 => ?_)
  refine sn_goto (y := m_X6_cell) (pc := 17) (tgt := 21) dX6_cell_17 (by decide) ?_
  exact sn_ireturn rfl dX6_cell_21
set_option maxRecDepth 100000 in
theorem c_X6_cell (g : Gl) (p0 : (Option Nat)) (p1 : Int32) : Cn g m_X6_cell eI [vA p0, vI p1] (f_X6_cell p0 p1) := cn_of_sn (by decide +kernel) rfl (fun r => ⟨r, rfl⟩) rfl (fun _ _ => s_X6_cell p0 p1)
/-! X0_letFieldAt -/
def f_X0_letFieldAt (p0 : (Option Nat)) (p1 : Int32) : Mo Int32 :=
  (if p1 < 0 then mRt (-1 : Int32) else mBd (mGetI 0 9 p0) (fun r1 => (if p1 ≥ r1 then mRt (-1 : Int32) else mBd (mGetA 0 3 p0) (fun r2 => mBd (f_X6_cell r2 p1) (fun r3 => mRt r3)))))
set_option maxRecDepth 100000 in
theorem s_X0_letFieldAt {cx : CX} (p0 : (Option Nat)) (p1 : Int32) : Sn cx m_X0_letFieldAt eI 0 [(0, vA p0), (1, vI p1)] [] (f_X0_letFieldAt p0 p1) := by
  refine sn_iload_n (y := m_X0_letFieldAt) (pc := 0) dX0_letFieldAt_0 rfl ?_
  refine sn_if_lt (y := m_X0_letFieldAt) (pc := 1) (tgt := 23) dX0_letFieldAt_1 (by decide) (fun _ => ?_) (fun _ => ?_)
  · refine sn_iconst (y := m_X0_letFieldAt) (pc := 23) dX0_letFieldAt_23 kc_iconst_m1 ?_
    exact sn_ireturn rfl dX0_letFieldAt_24
  refine sn_iload_n (y := m_X0_letFieldAt) (pc := 4) dX0_letFieldAt_4 rfl ?_
  refine sn_aload_n (y := m_X0_letFieldAt) (pc := 5) dX0_letFieldAt_5 rfl ?_
  refine sn_getI (y := m_X0_letFieldAt) (pc := 6) ca_0 rfl fk_X0_51 (fun _ _ _ => rfl) dX0_letFieldAt_6 (fun r1 => ?_)
  refine sn_icmp_ge (y := m_X0_letFieldAt) (pc := 9) (tgt := 23) dX0_letFieldAt_9 (by decide) (fun _ => ?_) (fun _ => ?_)
  · refine sn_iconst (y := m_X0_letFieldAt) (pc := 23) dX0_letFieldAt_23 kc_iconst_m1 ?_
    exact sn_ireturn rfl dX0_letFieldAt_24
  refine sn_aload_n (y := m_X0_letFieldAt) (pc := 12) dX0_letFieldAt_12 rfl ?_
  refine sn_getA (y := m_X0_letFieldAt) (pc := 13) ca_0 rfl fk_X0_30 (fun _ _ _ => rfl) dX0_letFieldAt_13 (fun r2 => ?_)
  refine sn_iload_n (y := m_X0_letFieldAt) (pc := 16) dX0_letFieldAt_16 rfl ?_
  refine sn_invS (y := m_X0_letFieldAt) (pc := 17) (av := [vA r2, vI p1]) (st := []) dX0_letFieldAt_17 lk_X0_59 sw_X6_cell rfl rfl rfl ⟨by decide, by decide⟩ (c_X6_cell cx.1 r2 p1) (fun r3 => ?_)
  refine sn_goto (y := m_X0_letFieldAt) (pc := 20) (tgt := 24) dX0_letFieldAt_20 (by decide) ?_
  exact sn_ireturn rfl dX0_letFieldAt_24
set_option maxRecDepth 100000 in
theorem c_X0_letFieldAt (g : Gl) (p0 : (Option Nat)) (p1 : Int32) : Cn g m_X0_letFieldAt eI [vA p0, vI p1] (mCk 0 p0 (f_X0_letFieldAt p0 p1)) := cn_of_sn (by decide +kernel) rfl (fun r => ⟨r, rfl⟩) rfl (fun _ _ => sn_ck (s_X0_letFieldAt p0 p1))
/-! X6_rowAt -/
def f_X6_rowAt (p0 : (Option Nat)) (p1 : Int32) : Mo (Option Nat) :=
  (if p0 = none then mRt none else (if p1 < 0 then mRt none else mBd (mLen p0) (fun r1 => (if p1 ≥ r1 then mRt none else mBd (mLdA 6 p0 p1) (fun r2 => mRt r2)))))
set_option maxRecDepth 100000 in
theorem s_X6_rowAt {cx : CX} (p0 : (Option Nat)) (p1 : Int32) : Sn cx m_X6_rowAt eA 0 [(0, vA p0), (1, vI p1)] [] (f_X6_rowAt p0 p1) := by
  refine sn_aload_n (y := m_X6_rowAt) (pc := 0) dX6_rowAt_0 rfl ?_
  refine sn_ifnull (y := m_X6_rowAt) (pc := 1) (tgt := 20) dX6_rowAt_1 (by decide) ?_ ?_
  · refine sn_anull (y := m_X6_rowAt) (pc := 20) dX6_rowAt_20 ?_
    exact sn_areturn (Or.inr ⟨_, rfl⟩) dX6_rowAt_21
  refine sn_iload_n (y := m_X6_rowAt) (pc := 4) dX6_rowAt_4 rfl ?_
  refine sn_if_lt (y := m_X6_rowAt) (pc := 5) (tgt := 20) dX6_rowAt_5 (by decide) (fun _ => ?_) (fun _ => ?_)
  · refine sn_anull (y := m_X6_rowAt) (pc := 20) dX6_rowAt_20 ?_
    exact sn_areturn (Or.inr ⟨_, rfl⟩) dX6_rowAt_21
  refine sn_iload_n (y := m_X6_rowAt) (pc := 8) dX6_rowAt_8 rfl ?_
  refine sn_aload_n (y := m_X6_rowAt) (pc := 9) dX6_rowAt_9 rfl ?_
  refine sn_alen (y := m_X6_rowAt) (pc := 10) dX6_rowAt_10 (fun r1 => ?_)
  refine sn_icmp_ge (y := m_X6_rowAt) (pc := 11) (tgt := 20) dX6_rowAt_11 (by decide) (fun _ => ?_) (fun _ => ?_)
  · refine sn_anull (y := m_X6_rowAt) (pc := 20) dX6_rowAt_20 ?_
    exact sn_areturn (Or.inr ⟨_, rfl⟩) dX6_rowAt_21
  refine sn_aload_n (y := m_X6_rowAt) (pc := 14) dX6_rowAt_14 rfl ?_
  refine sn_iload_n (y := m_X6_rowAt) (pc := 15) dX6_rowAt_15 rfl ?_
  refine sn_aaload (y := m_X6_rowAt) (pc := 16) dX6_rowAt_16 (fun r2 => ?_)
  refine sn_goto (y := m_X6_rowAt) (pc := 17) (tgt := 21) dX6_rowAt_17 (by decide) ?_
  exact sn_areturn (Or.inr ⟨_, rfl⟩) dX6_rowAt_21
set_option maxRecDepth 100000 in
theorem c_X6_rowAt (g : Gl) (p0 : (Option Nat)) (p1 : Int32) : Cn g m_X6_rowAt eA [vA p0, vI p1] (f_X6_rowAt p0 p1) := cn_of_sn (by decide +kernel) rfl (fun r => ⟨r, rfl⟩) rfl (fun _ _ => s_X6_rowAt p0 p1)
/-! X0_letRowAt -/
def f_X0_letRowAt (p0 : (Option Nat)) (p1 : Int32) : Mo (Option Nat) :=
  (if p1 < 0 then mRt none else mBd (mGetI 0 9 p0) (fun r1 => (if p1 ≥ r1 then mRt none else mBd (mGetA 0 2 p0) (fun r2 => mBd (f_X6_rowAt r2 p1) (fun r3 => mRt r3)))))
set_option maxRecDepth 100000 in
theorem s_X0_letRowAt {cx : CX} (p0 : (Option Nat)) (p1 : Int32) : Sn cx m_X0_letRowAt eA 0 [(0, vA p0), (1, vI p1)] [] (f_X0_letRowAt p0 p1) := by
  refine sn_iload_n (y := m_X0_letRowAt) (pc := 0) dX0_letRowAt_0 rfl ?_
  refine sn_if_lt (y := m_X0_letRowAt) (pc := 1) (tgt := 23) dX0_letRowAt_1 (by decide) (fun _ => ?_) (fun _ => ?_)
  · refine sn_anull (y := m_X0_letRowAt) (pc := 23) dX0_letRowAt_23 ?_
    exact sn_areturn (Or.inr ⟨_, rfl⟩) dX0_letRowAt_24
  refine sn_iload_n (y := m_X0_letRowAt) (pc := 4) dX0_letRowAt_4 rfl ?_
  refine sn_aload_n (y := m_X0_letRowAt) (pc := 5) dX0_letRowAt_5 rfl ?_
  refine sn_getI (y := m_X0_letRowAt) (pc := 6) ca_0 rfl fk_X0_51 (fun _ _ _ => rfl) dX0_letRowAt_6 (fun r1 => ?_)
  refine sn_icmp_ge (y := m_X0_letRowAt) (pc := 9) (tgt := 23) dX0_letRowAt_9 (by decide) (fun _ => ?_) (fun _ => ?_)
  · refine sn_anull (y := m_X0_letRowAt) (pc := 23) dX0_letRowAt_23 ?_
    exact sn_areturn (Or.inr ⟨_, rfl⟩) dX0_letRowAt_24
  refine sn_aload_n (y := m_X0_letRowAt) (pc := 12) dX0_letRowAt_12 rfl ?_
  refine sn_getA (y := m_X0_letRowAt) (pc := 13) ca_0 rfl fk_X0_27 (fun _ _ _ => rfl) dX0_letRowAt_13 (fun r2 => ?_)
  refine sn_iload_n (y := m_X0_letRowAt) (pc := 16) dX0_letRowAt_16 rfl ?_
  refine sn_invS (y := m_X0_letRowAt) (pc := 17) (av := [vA r2, vI p1]) (st := []) dX0_letRowAt_17 lk_X0_65 sw_X6_rowAt rfl rfl rfl ⟨by decide, by decide⟩ (c_X6_rowAt cx.1 r2 p1) (fun r3 => ?_)
  refine sn_goto (y := m_X0_letRowAt) (pc := 20) (tgt := 24) dX0_letRowAt_20 (by decide) ?_
  exact sn_areturn (Or.inr ⟨_, rfl⟩) dX0_letRowAt_24
set_option maxRecDepth 100000 in
theorem c_X0_letRowAt (g : Gl) (p0 : (Option Nat)) (p1 : Int32) : Cn g m_X0_letRowAt eA [vA p0, vI p1] (mCk 0 p0 (f_X0_letRowAt p0 p1)) := cn_of_sn (by decide +kernel) rfl (fun r => ⟨r, rfl⟩) rfl (fun _ _ => sn_ck (s_X0_letRowAt p0 p1))
/-! X0_rankOf -/
def f_X0_rankOf_b2 (x0 : (Option Nat)) (x1 : Int64) (k2 : Int32 → Mo Int32) (x3 : Int32) : Mo Int32 :=
  mBd (mGetI 0 10 x0) (fun r1 => (if x3 ≥ r1 then mRt (-1 : Int32) else mBd (mGetA 0 4 x0) (fun r2 => mBd (mLen r2) (fun r3 => (if x3 ≥ r3 then mRt (-1 : Int32) else mBd (mGetA 0 4 x0) (fun r4 => mBd (mLdJ r4 x3) (fun r5 => (if ¬ r5 = x1 then k2 (x3 + 1) else mRt x3))))))))
def f_X0_rankOf_l2 (x0 : (Option Nat)) (x1 : Int64) : Int32 → Mo Int32 := lq1 (f_X0_rankOf_b2 x0 x1) fuel
set_option maxRecDepth 100000 in
theorem s_X0_rankOf_b2 {cx : CX} (x0 : (Option Nat)) (x1 : Int64) {k2 : Int32 → Mo Int32} (hk2 : ∀ (z3 : Int32), Sn cx m_X0_rankOf eI 2 [(3, vI z3), (0, vA x0), (1, vJ x1)] [] (k2 z3)) (x3 : Int32) : Sn cx m_X0_rankOf eI 2 [(3, vI x3), (0, vA x0), (1, vJ x1)] [] (f_X0_rankOf_b2 x0 x1 k2 x3) := by
  refine sn_iload_n (y := m_X0_rankOf) (pc := 2) dX0_rankOf_2 rfl ?_
  refine sn_aload_n (y := m_X0_rankOf) (pc := 3) dX0_rankOf_3 rfl ?_
  refine sn_getI (y := m_X0_rankOf) (pc := 4) ca_0 rfl fk_X0_54 (fun _ _ _ => rfl) dX0_rankOf_4 (fun r1 => ?_)
  refine sn_icmp_ge (y := m_X0_rankOf) (pc := 7) (tgt := 38) dX0_rankOf_7 (by decide) (fun _ => ?_) (fun _ => ?_)
  · refine sn_iconst (y := m_X0_rankOf) (pc := 38) dX0_rankOf_38 kc_iconst_m1 ?_
    exact sn_ireturn rfl dX0_rankOf_39
  refine sn_iload_n (y := m_X0_rankOf) (pc := 10) dX0_rankOf_10 rfl ?_
  refine sn_aload_n (y := m_X0_rankOf) (pc := 11) dX0_rankOf_11 rfl ?_
  refine sn_getA (y := m_X0_rankOf) (pc := 12) ca_0 rfl fk_X0_34 (fun _ _ _ => rfl) dX0_rankOf_12 (fun r2 => ?_)
  refine sn_alen (y := m_X0_rankOf) (pc := 15) dX0_rankOf_15 (fun r3 => ?_)
  refine sn_icmp_ge (y := m_X0_rankOf) (pc := 16) (tgt := 38) dX0_rankOf_16 (by decide) (fun _ => ?_) (fun _ => ?_)
  · refine sn_iconst (y := m_X0_rankOf) (pc := 38) dX0_rankOf_38 kc_iconst_m1 ?_
    exact sn_ireturn rfl dX0_rankOf_39
  refine sn_aload_n (y := m_X0_rankOf) (pc := 19) dX0_rankOf_19 rfl ?_
  refine sn_getA (y := m_X0_rankOf) (pc := 20) ca_0 rfl fk_X0_34 (fun _ _ _ => rfl) dX0_rankOf_20 (fun r4 => ?_)
  refine sn_iload_n (y := m_X0_rankOf) (pc := 23) dX0_rankOf_23 rfl ?_
  refine sn_laload (y := m_X0_rankOf) (pc := 24) dX0_rankOf_24 (fun r5 => ?_)
  refine sn_lload_n (y := m_X0_rankOf) (pc := 25) dX0_rankOf_25 rfl ?_
  refine sn_lc_ne (y := m_X0_rankOf) (pc := 26) (tgt := 32) dX0_rankOf_26 dX0_rankOf_27 (by decide) (fun _ => ?_) (fun _ => ?_)
  · refine sn_iinc (y := m_X0_rankOf) (pc := 32) (v := x3 + 1) dX0_rankOf_32 rfl (by rfl) rfl ?_
    refine sn_goto (y := m_X0_rankOf) (pc := 35) (tgt := 2) dX0_rankOf_35 (by decide) ?_
    exact sn_sub rfl (hk2 (x3 + 1))
  refine sn_iload_n (y := m_X0_rankOf) (pc := 30) dX0_rankOf_30 rfl ?_
  exact sn_ireturn rfl dX0_rankOf_31
set_option maxRecDepth 100000 in
theorem s_X0_rankOf_l2 {cx : CX} (x0 : (Option Nat)) (x1 : Int64) (x3 : Int32) : Sn cx m_X0_rankOf eI 2 [(3, vI x3), (0, vA x0), (1, vJ x1)] [] (f_X0_rankOf_l2 x0 x1 x3) :=
  sn_lq1 (L := fun x3 => [(3, vI x3), (0, vA x0), (1, vJ x1)]) (fun k hk x3 => s_X0_rankOf_b2 x0 x1 hk x3) fuel x3
def f_X0_rankOf (p0 : (Option Nat)) (p1 : Int64) : Mo Int32 :=
  f_X0_rankOf_l2 p0 p1 (0 : Int32)
set_option maxRecDepth 100000 in
theorem s_X0_rankOf {cx : CX} (p0 : (Option Nat)) (p1 : Int64) : Sn cx m_X0_rankOf eI 0 [(0, vA p0), (1, vJ p1)] [] (f_X0_rankOf p0 p1) := by
  refine sn_iconst (y := m_X0_rankOf) (pc := 0) dX0_rankOf_0 kc_iconst_0 ?_
  refine sn_istore_n (y := m_X0_rankOf) (pc := 1) dX0_rankOf_1 rfl ?_
  exact sn_sub rfl (s_X0_rankOf_l2 p0 p1 (0 : Int32))
set_option maxRecDepth 100000 in
theorem c_X0_rankOf (g : Gl) (p0 : (Option Nat)) (p1 : Int64) : Cn g m_X0_rankOf eI [vA p0, vJ p1] (mCk 0 p0 (f_X0_rankOf p0 p1)) := cn_of_sn (by decide +kernel) rfl (fun r => ⟨r, rfl⟩) rfl (fun _ _ => sn_ck (s_X0_rankOf p0 p1))
/-! X0_knows -/
def f_X0_knows (p0 : (Option Nat)) (p1 : Int64) : Mo Int32 :=
  mBd (mCk 0 p0 (f_X0_rankOf p0 p1)) (fun r1 => (if r1 < 0 then mRt (0 : Int32) else mRt (1 : Int32)))
set_option maxRecDepth 100000 in
theorem s_X0_knows {cx : CX} (p0 : (Option Nat)) (p1 : Int64) : Sn cx m_X0_knows eI 0 [(0, vA p0), (1, vJ p1)] [] (f_X0_knows p0 p1) := by
  refine sn_aload_n (y := m_X0_knows) (pc := 0) dX0_knows_0 rfl ?_
  refine sn_lload_n (y := m_X0_knows) (pc := 1) dX0_knows_1 rfl ?_
  refine sn_invV (y := m_X0_knows) (pc := 2) ca_0 (av := [vJ p1]) (o := p0) (st := []) dX0_knows_2 lk_X0_69 im_X0_rankOf se_X0_rankOf rfl rfl rfl rfl ⟨by decide, by decide⟩ (c_X0_rankOf cx.1 p0 p1) (fun r1 => ?_)
  refine sn_if_lt (y := m_X0_knows) (pc := 5) (tgt := 12) dX0_knows_5 (by decide) (fun _ => ?_) (fun _ => ?_)
  · refine sn_iconst (y := m_X0_knows) (pc := 12) dX0_knows_12 kc_iconst_0 ?_
    exact sn_zreturnC (by decide) rfl dX0_knows_13
  refine sn_iconst (y := m_X0_knows) (pc := 8) dX0_knows_8 kc_iconst_1 ?_
  refine sn_goto (y := m_X0_knows) (pc := 9) (tgt := 13) dX0_knows_9 (by decide) ?_
  exact sn_zreturnC (by decide) rfl dX0_knows_13
set_option maxRecDepth 100000 in
theorem c_X0_knows (g : Gl) (p0 : (Option Nat)) (p1 : Int64) : Cn g m_X0_knows eI [vA p0, vJ p1] (mCk 0 p0 (f_X0_knows p0 p1)) := cn_of_sn (by decide +kernel) rfl (fun r => ⟨r, rfl⟩) rfl (fun _ _ => sn_ck (s_X0_knows p0 p1))
/-! X0_find -/
def f_X0_find (p0 : (Option Nat)) (p1 : Int64) (p3 : Int32) : Mo Int32 :=
  mBd (mCk 0 p0 (f_X0_rankOf p0 p1)) (fun r1 => (if r1 < 0 then mRt (-1 : Int32) else mBd (mGetA 0 5 p0) (fun r2 => mBd (f_X6_cell r2 r1) (fun r3 => (if ¬ r3 = p3 then mRt (-1 : Int32) else mBd (mGetA 0 6 p0) (fun r4 => mBd (f_X6_cell r4 r1) (fun r5 => mRt r5)))))))
set_option maxRecDepth 100000 in
theorem s_X0_find {cx : CX} (p0 : (Option Nat)) (p1 : Int64) (p3 : Int32) : Sn cx m_X0_find eI 0 [(0, vA p0), (1, vJ p1), (3, vI p3)] [] (f_X0_find p0 p1 p3) := by
  refine sn_aload_n (y := m_X0_find) (pc := 0) dX0_find_0 rfl ?_
  refine sn_lload_n (y := m_X0_find) (pc := 1) dX0_find_1 rfl ?_
  refine sn_invV (y := m_X0_find) (pc := 2) ca_0 (av := [vJ p1]) (o := p0) (st := []) dX0_find_2 lk_X0_69 im_X0_rankOf se_X0_rankOf rfl rfl rfl rfl ⟨by decide, by decide⟩ (c_X0_rankOf cx.1 p0 p1) (fun r1 => ?_)
  refine sn_istore (y := m_X0_find) (pc := 5) dX0_find_5 rfl ?_
  refine sn_iload (y := m_X0_find) (pc := 7) dX0_find_7 rfl ?_
  refine sn_if_lt (y := m_X0_find) (pc := 9) (tgt := 37) dX0_find_9 (by decide) (fun _ => ?_) (fun _ => ?_)
  · refine sn_iconst (y := m_X0_find) (pc := 37) dX0_find_37 kc_iconst_m1 ?_
    exact sn_ireturn rfl dX0_find_38
  refine sn_aload_n (y := m_X0_find) (pc := 12) dX0_find_12 rfl ?_
  refine sn_getA (y := m_X0_find) (pc := 13) ca_0 rfl fk_X0_38 (fun _ _ _ => rfl) dX0_find_13 (fun r2 => ?_)
  refine sn_iload (y := m_X0_find) (pc := 16) dX0_find_16 rfl ?_
  refine sn_invS (y := m_X0_find) (pc := 18) (av := [vA r2, vI r1]) (st := []) dX0_find_18 lk_X0_59 sw_X6_cell rfl rfl rfl ⟨by decide, by decide⟩ (c_X6_cell cx.1 r2 r1) (fun r3 => ?_)
  refine sn_iload_n (y := m_X0_find) (pc := 21) dX0_find_21 rfl ?_
  refine sn_icmp_ne (y := m_X0_find) (pc := 22) (tgt := 37) dX0_find_22 (by decide) (fun _ => ?_) (fun _ => ?_)
  · refine sn_iconst (y := m_X0_find) (pc := 37) dX0_find_37 kc_iconst_m1 ?_
    exact sn_ireturn rfl dX0_find_38
  refine sn_aload_n (y := m_X0_find) (pc := 25) dX0_find_25 rfl ?_
  refine sn_getA (y := m_X0_find) (pc := 26) ca_0 rfl fk_X0_41 (fun _ _ _ => rfl) dX0_find_26 (fun r4 => ?_)
  refine sn_iload (y := m_X0_find) (pc := 29) dX0_find_29 rfl ?_
  refine sn_invS (y := m_X0_find) (pc := 31) (av := [vA r4, vI r1]) (st := []) dX0_find_31 lk_X0_59 sw_X6_cell rfl rfl rfl ⟨by decide, by decide⟩ (c_X6_cell cx.1 r4 r1) (fun r5 => ?_)
  refine sn_goto (y := m_X0_find) (pc := 34) (tgt := 38) dX0_find_34 (by decide) ?_
  exact sn_ireturn rfl dX0_find_38
set_option maxRecDepth 100000 in
theorem c_X0_find (g : Gl) (p0 : (Option Nat)) (p1 : Int64) (p3 : Int32) : Cn g m_X0_find eI [vA p0, vJ p1, vI p3] (mCk 0 p0 (f_X0_find p0 p1 p3)) := cn_of_sn (by decide +kernel) rfl (fun r => ⟨r, rfl⟩) rfl (fun _ _ => sn_ck (s_X0_find p0 p1 p3))
/-! X6_put -/
def f_X6_put (p0 : (Option Nat)) (p1 : Int32) (p2 : Int64) : Mo Unit :=
  (if p0 = none then mRt () else (if p1 < 0 then mRt () else mBd (mLen p0) (fun r1 => (if p1 ≥ r1 then mRt () else mBd (mStJ p0 p1 p2) (fun _ => mRt ())))))
set_option maxRecDepth 100000 in
theorem s_X6_put {cx : CX} (p0 : (Option Nat)) (p1 : Int32) (p2 : Int64) : Sn cx m_X6_put eV 0 [(0, vA p0), (1, vI p1), (2, vJ p2)] [] (f_X6_put p0 p1 p2) := by
  refine sn_aload_n (y := m_X6_put) (pc := 0) dX6_put_0 rfl ?_
  refine sn_ifnull (y := m_X6_put) (pc := 1) (tgt := 18) dX6_put_1 (by decide) ?_ ?_
  · exact sn_return rfl dX6_put_18
  refine sn_iload_n (y := m_X6_put) (pc := 4) dX6_put_4 rfl ?_
  refine sn_if_lt (y := m_X6_put) (pc := 5) (tgt := 18) dX6_put_5 (by decide) (fun _ => ?_) (fun _ => ?_)
  · exact sn_return rfl dX6_put_18
  refine sn_iload_n (y := m_X6_put) (pc := 8) dX6_put_8 rfl ?_
  refine sn_aload_n (y := m_X6_put) (pc := 9) dX6_put_9 rfl ?_
  refine sn_alen (y := m_X6_put) (pc := 10) dX6_put_10 (fun r1 => ?_)
  refine sn_icmp_ge (y := m_X6_put) (pc := 11) (tgt := 18) dX6_put_11 (by decide) (fun _ => ?_) (fun _ => ?_)
  · exact sn_return rfl dX6_put_18
  refine sn_aload_n (y := m_X6_put) (pc := 14) dX6_put_14 rfl ?_
  refine sn_iload_n (y := m_X6_put) (pc := 15) dX6_put_15 rfl ?_
  refine sn_lload_n (y := m_X6_put) (pc := 16) dX6_put_16 rfl ?_
  refine sn_lastore (y := m_X6_put) (pc := 17) dX6_put_17 ?_
  exact sn_return rfl dX6_put_18
set_option maxRecDepth 100000 in
theorem c_X6_put (g : Gl) (p0 : (Option Nat)) (p1 : Int32) (p2 : Int64) : Cn g m_X6_put eV [vA p0, vI p1, vJ p2] (f_X6_put p0 p1 p2) := cn_of_sn (by decide +kernel) rfl (fun _ => rfl) rfl (fun _ _ => s_X6_put p0 p1 p2)
/-! X6_mark -/
def f_X6_mark (p0 : (Option Nat)) (p1 : Int32) (p2 : Int32) : Mo Unit :=
  (if p0 = none then mRt () else (if p1 < 0 then mRt () else mBd (mLen p0) (fun r1 => (if p1 ≥ r1 then mRt () else mBd (mStI p0 p1 p2) (fun _ => mRt ())))))
set_option maxRecDepth 100000 in
theorem s_X6_mark {cx : CX} (p0 : (Option Nat)) (p1 : Int32) (p2 : Int32) : Sn cx m_X6_mark eV 0 [(0, vA p0), (1, vI p1), (2, vI p2)] [] (f_X6_mark p0 p1 p2) := by
  refine sn_aload_n (y := m_X6_mark) (pc := 0) dX6_mark_0 rfl ?_
  refine sn_ifnull (y := m_X6_mark) (pc := 1) (tgt := 18) dX6_mark_1 (by decide) ?_ ?_
  · exact sn_return rfl dX6_mark_18
  refine sn_iload_n (y := m_X6_mark) (pc := 4) dX6_mark_4 rfl ?_
  refine sn_if_lt (y := m_X6_mark) (pc := 5) (tgt := 18) dX6_mark_5 (by decide) (fun _ => ?_) (fun _ => ?_)
  · exact sn_return rfl dX6_mark_18
  refine sn_iload_n (y := m_X6_mark) (pc := 8) dX6_mark_8 rfl ?_
  refine sn_aload_n (y := m_X6_mark) (pc := 9) dX6_mark_9 rfl ?_
  refine sn_alen (y := m_X6_mark) (pc := 10) dX6_mark_10 (fun r1 => ?_)
  refine sn_icmp_ge (y := m_X6_mark) (pc := 11) (tgt := 18) dX6_mark_11 (by decide) (fun _ => ?_) (fun _ => ?_)
  · exact sn_return rfl dX6_mark_18
  refine sn_aload_n (y := m_X6_mark) (pc := 14) dX6_mark_14 rfl ?_
  refine sn_iload_n (y := m_X6_mark) (pc := 15) dX6_mark_15 rfl ?_
  refine sn_iload_n (y := m_X6_mark) (pc := 16) dX6_mark_16 rfl ?_
  refine sn_iastore (y := m_X6_mark) (pc := 17) dX6_mark_17 ?_
  exact sn_return rfl dX6_mark_18
set_option maxRecDepth 100000 in
theorem c_X6_mark (g : Gl) (p0 : (Option Nat)) (p1 : Int32) (p2 : Int32) : Cn g m_X6_mark eV [vA p0, vI p1, vI p2] (f_X6_mark p0 p1 p2) := cn_of_sn (by decide +kernel) rfl (fun _ => rfl) rfl (fun _ _ => s_X6_mark p0 p1 p2)
/-! X0_tell -/
def f_X0_tell (p0 : (Option Nat)) (p1 : Int64) (p3 : Int32) (p4 : Int32) : Mo Unit :=
  mBd (mGetA 0 4 p0) (fun r1 => mBd (mGetI 0 10 p0) (fun r2 => mBd (f_X6_put r1 r2 p1) (fun _ => mBd (mGetA 0 5 p0) (fun r3 => mBd (mGetI 0 10 p0) (fun r4 => mBd (f_X6_mark r3 r4 p3) (fun _ => mBd (mGetA 0 6 p0) (fun r5 => mBd (mGetI 0 10 p0) (fun r6 => mBd (f_X6_mark r5 r6 p4) (fun _ => mBd (mGetI 0 10 p0) (fun r7 => mBd (mPutI 0 10 p0 (r7 + (1 : Int32))) (fun _ => mRt ())))))))))))
set_option maxRecDepth 100000 in
theorem s_X0_tell {cx : CX} (p0 : (Option Nat)) (p1 : Int64) (p3 : Int32) (p4 : Int32) : Sn cx m_X0_tell eV 0 [(0, vA p0), (1, vJ p1), (3, vI p3), (4, vI p4)] [] (f_X0_tell p0 p1 p3 p4) := by
  refine sn_aload_n (y := m_X0_tell) (pc := 0) dX0_tell_0 rfl ?_
  refine sn_getA (y := m_X0_tell) (pc := 1) ca_0 rfl fk_X0_34 (fun _ _ _ => rfl) dX0_tell_1 (fun r1 => ?_)
  refine sn_aload_n (y := m_X0_tell) (pc := 4) dX0_tell_4 rfl ?_
  refine sn_getI (y := m_X0_tell) (pc := 5) ca_0 rfl fk_X0_54 (fun _ _ _ => rfl) dX0_tell_5 (fun r2 => ?_)
  refine sn_lload_n (y := m_X0_tell) (pc := 8) dX0_tell_8 rfl ?_
  refine sn_invS (y := m_X0_tell) (pc := 9) (av := [vA r1, vI r2, vJ p1]) (st := []) dX0_tell_9 lk_X0_73 sw_X6_put rfl rfl rfl ⟨by decide, by decide⟩ (c_X6_put cx.1 r1 r2 p1) (fun _ => ?_)
  refine sn_aload_n (y := m_X0_tell) (pc := 12) dX0_tell_12 rfl ?_
  refine sn_getA (y := m_X0_tell) (pc := 13) ca_0 rfl fk_X0_38 (fun _ _ _ => rfl) dX0_tell_13 (fun r3 => ?_)
  refine sn_aload_n (y := m_X0_tell) (pc := 16) dX0_tell_16 rfl ?_
  refine sn_getI (y := m_X0_tell) (pc := 17) ca_0 rfl fk_X0_54 (fun _ _ _ => rfl) dX0_tell_17 (fun r4 => ?_)
  refine sn_iload_n (y := m_X0_tell) (pc := 20) dX0_tell_20 rfl ?_
  refine sn_invS (y := m_X0_tell) (pc := 21) (av := [vA r3, vI r4, vI p3]) (st := []) dX0_tell_21 lk_X0_77 sw_X6_mark rfl rfl rfl ⟨by decide, by decide⟩ (c_X6_mark cx.1 r3 r4 p3) (fun _ => ?_)
  refine sn_aload_n (y := m_X0_tell) (pc := 24) dX0_tell_24 rfl ?_
  refine sn_getA (y := m_X0_tell) (pc := 25) ca_0 rfl fk_X0_41 (fun _ _ _ => rfl) dX0_tell_25 (fun r5 => ?_)
  refine sn_aload_n (y := m_X0_tell) (pc := 28) dX0_tell_28 rfl ?_
  refine sn_getI (y := m_X0_tell) (pc := 29) ca_0 rfl fk_X0_54 (fun _ _ _ => rfl) dX0_tell_29 (fun r6 => ?_)
  refine sn_iload (y := m_X0_tell) (pc := 32) dX0_tell_32 rfl ?_
  refine sn_invS (y := m_X0_tell) (pc := 34) (av := [vA r5, vI r6, vI p4]) (st := []) dX0_tell_34 lk_X0_77 sw_X6_mark rfl rfl rfl ⟨by decide, by decide⟩ (c_X6_mark cx.1 r5 r6 p4) (fun _ => ?_)
  refine sn_aload_n (y := m_X0_tell) (pc := 37) dX0_tell_37 rfl ?_
  refine sn_dup (y := m_X0_tell) (pc := 38) rfl dX0_tell_38 ?_
  refine sn_getI (y := m_X0_tell) (pc := 39) ca_0 rfl fk_X0_54 (fun _ _ _ => rfl) dX0_tell_39 (fun r7 => ?_)
  refine sn_iconst (y := m_X0_tell) (pc := 42) dX0_tell_42 kc_iconst_1 ?_
  refine sn_iadd (y := m_X0_tell) (pc := 43) dX0_tell_43 ?_
  refine sn_putI (y := m_X0_tell) (pc := 44) ca_0 rfl fk_X0_54 (Or.inl rfl) rfl dX0_tell_44 ?_
  exact sn_return rfl dX0_tell_47
set_option maxRecDepth 100000 in
theorem c_X0_tell (g : Gl) (p0 : (Option Nat)) (p1 : Int64) (p3 : Int32) (p4 : Int32) : Cn g m_X0_tell eV [vA p0, vJ p1, vI p3, vI p4] (mCk 0 p0 (f_X0_tell p0 p1 p3 p4)) := cn_of_sn (by decide +kernel) rfl (fun _ => rfl) rfl (fun _ _ => sn_ck (s_X0_tell p0 p1 p3 p4))
/-! X6_mod -/
def f_X6_mod (p0 : Int64) (p2 : Int32) : Mo Int32 :=
  (if p2 ≥ (1 : Int32) then mRq (¬ (p2.toInt64) = 0) (mNm ((lrem p0 (p2.toInt64)).toInt32) (fun n1 => (if n1 ≥ 0 then mRt n1 else mRt (n1 + p2)))) else mRt (0 : Int32))
set_option maxRecDepth 100000 in
theorem s_X6_mod {cx : CX} (p0 : Int64) (p2 : Int32) : Sn cx m_X6_mod eI 0 [(0, vJ p0), (2, vI p2)] [] (f_X6_mod p0 p2) := by
  refine sn_iload_n (y := m_X6_mod) (pc := 0) dX6_mod_0 rfl ?_
  refine sn_iconst (y := m_X6_mod) (pc := 1) dX6_mod_1 kc_iconst_1 ?_
  refine sn_icmp_ge (y := m_X6_mod) (pc := 2) (tgt := 7) dX6_mod_2 (by decide) (fun _ => ?_) (fun _ => ?_)
  · refine sn_lload_n (y := m_X6_mod) (pc := 7) dX6_mod_7 rfl ?_
    refine sn_iload_n (y := m_X6_mod) (pc := 8) dX6_mod_8 rfl ?_
    refine sn_i2l (y := m_X6_mod) (pc := 9) dX6_mod_9 ?_
    refine sn_lrem (y := m_X6_mod) (pc := 10) dX6_mod_10 ?_
    refine sn_l2i (y := m_X6_mod) (pc := 11) dX6_mod_11 ?_
    refine sn_istore_nM (y := m_X6_mod) (pc := 12) dX6_mod_12 rfl (fun n1 => ?_)
    refine sn_iload_n (y := m_X6_mod) (pc := 13) dX6_mod_13 rfl ?_
    refine sn_if_ge (y := m_X6_mod) (pc := 14) (tgt := 23) dX6_mod_14 (by decide) (fun _ => ?_) (fun _ => ?_)
    · refine sn_iload_n (y := m_X6_mod) (pc := 23) dX6_mod_23 rfl ?_
      exact sn_ireturn rfl dX6_mod_24
    refine sn_iload_n (y := m_X6_mod) (pc := 17) dX6_mod_17 rfl ?_
    refine sn_iload_n (y := m_X6_mod) (pc := 18) dX6_mod_18 rfl ?_
    refine sn_iadd (y := m_X6_mod) (pc := 19) dX6_mod_19 ?_
    refine sn_goto (y := m_X6_mod) (pc := 20) (tgt := 24) dX6_mod_20 (by decide) ?_
    exact sn_ireturn rfl dX6_mod_24
  refine sn_iconst (y := m_X6_mod) (pc := 5) dX6_mod_5 kc_iconst_0 ?_
  exact sn_ireturn rfl dX6_mod_6
set_option maxRecDepth 100000 in
theorem c_X6_mod (g : Gl) (p0 : Int64) (p2 : Int32) : Cn g m_X6_mod eI [vJ p0, vI p2] (f_X6_mod p0 p2) := cn_of_sn (by decide +kernel) rfl (fun r => ⟨r, rfl⟩) rfl (fun _ _ => s_X6_mod p0 p2)
/-! X2_fillPowers -/
def f_X2_fillPowers_j25 (k4 : Int32 → Int32 → Mo Int32) (x0 : (Option Nat)) (x1 : Int32) (x2 : Int32) (x3 : Int32) : Mo Int32 :=
  mBd (mGetA 2 1 x0) (fun r2 => mBd (f_X6_mark r2 x3 x2) (fun _ => mBd (mGetA 2 0 x0) (fun r3 => mBd (f_X6_mark r3 x2 x3) (fun _ => mBd (mGetI 2 3 x0) (fun r4 => mBd (f_X6_mod ((x2 * x1).toInt64) r4) (fun r5 => k4 r5 (x3 + 1)))))))
set_option maxRecDepth 100000 in
theorem s_X2_fillPowers_j25 {cx : CX} {k4 : Int32 → Int32 → Mo Int32} (x0 : (Option Nat)) (x1 : Int32) (x2 : Int32) (x3 : Int32) (hk4 : ∀ (z2 : Int32) (z3 : Int32), Sn cx m_X2_fillPowers eI 4 [(2, vI z2), (3, vI z3), (0, vA x0), (1, vI x1)] [] (k4 z2 z3)) : Sn cx m_X2_fillPowers eI 25 [(0, vA x0), (1, vI x1), (2, vI x2), (3, vI x3)] [] (f_X2_fillPowers_j25 k4 x0 x1 x2 x3) := by
  refine sn_aload_n (y := m_X2_fillPowers) (pc := 25) dX2_fillPowers_25 rfl ?_
  refine sn_getA (y := m_X2_fillPowers) (pc := 26) ca_2 rfl fk_X2_15 (fun _ _ _ => rfl) dX2_fillPowers_26 (fun r2 => ?_)
  refine sn_iload_n (y := m_X2_fillPowers) (pc := 29) dX2_fillPowers_29 rfl ?_
  refine sn_iload_n (y := m_X2_fillPowers) (pc := 30) dX2_fillPowers_30 rfl ?_
  refine sn_invS (y := m_X2_fillPowers) (pc := 31) (av := [vA r2, vI x3, vI x2]) (st := []) dX2_fillPowers_31 lk_X2_32 sw_X6_mark rfl rfl rfl ⟨by decide, by decide⟩ (c_X6_mark cx.1 r2 x3 x2) (fun _ => ?_)
  refine sn_aload_n (y := m_X2_fillPowers) (pc := 34) dX2_fillPowers_34 rfl ?_
  refine sn_getA (y := m_X2_fillPowers) (pc := 35) ca_2 rfl fk_X2_11 (fun _ _ _ => rfl) dX2_fillPowers_35 (fun r3 => ?_)
  refine sn_iload_n (y := m_X2_fillPowers) (pc := 38) dX2_fillPowers_38 rfl ?_
  refine sn_iload_n (y := m_X2_fillPowers) (pc := 39) dX2_fillPowers_39 rfl ?_
  refine sn_invS (y := m_X2_fillPowers) (pc := 40) (av := [vA r3, vI x2, vI x3]) (st := []) dX2_fillPowers_40 lk_X2_32 sw_X6_mark rfl rfl rfl ⟨by decide, by decide⟩ (c_X6_mark cx.1 r3 x2 x3) (fun _ => ?_)
  refine sn_iload_n (y := m_X2_fillPowers) (pc := 43) dX2_fillPowers_43 rfl ?_
  refine sn_iload_n (y := m_X2_fillPowers) (pc := 44) dX2_fillPowers_44 rfl ?_
  refine sn_imul (y := m_X2_fillPowers) (pc := 45) dX2_fillPowers_45 ?_
  refine sn_i2l (y := m_X2_fillPowers) (pc := 46) dX2_fillPowers_46 ?_
  refine sn_aload_n (y := m_X2_fillPowers) (pc := 47) dX2_fillPowers_47 rfl ?_
  refine sn_getI (y := m_X2_fillPowers) (pc := 48) ca_2 rfl fk_X2_21 (fun _ _ _ => rfl) dX2_fillPowers_48 (fun r4 => ?_)
  refine sn_invS (y := m_X2_fillPowers) (pc := 51) (av := [vJ ((x2 * x1).toInt64), vI r4]) (st := []) dX2_fillPowers_51 lk_X2_38 sw_X6_mod rfl rfl rfl ⟨by decide, by decide⟩ (c_X6_mod cx.1 ((x2 * x1).toInt64) r4) (fun r5 => ?_)
  refine sn_istore_n (y := m_X2_fillPowers) (pc := 54) dX2_fillPowers_54 rfl ?_
  refine sn_iinc (y := m_X2_fillPowers) (pc := 55) (v := x3 + 1) dX2_fillPowers_55 rfl (by rfl) rfl ?_
  refine sn_goto (y := m_X2_fillPowers) (pc := 58) (tgt := 4) dX2_fillPowers_58 (by decide) ?_
  exact sn_sub rfl (hk4 r5 (x3 + 1))
def f_X2_fillPowers_b4 (x0 : (Option Nat)) (x1 : Int32) (k4 : Int32 → Int32 → Mo Int32) (x2 : Int32) (x3 : Int32) : Mo Int32 :=
  mBd (mGetI 2 3 x0) (fun r1 => (if x3 ≥ (r1 - (1 : Int32)) then mRt (1 : Int32) else (if x3 ≤ 0 then f_X2_fillPowers_j25 k4 x0 x1 x2 x3 else (if ¬ x2 = (1 : Int32) then f_X2_fillPowers_j25 k4 x0 x1 x2 x3 else mRt (0 : Int32)))))
def f_X2_fillPowers_l4 (x0 : (Option Nat)) (x1 : Int32) : Int32 → Int32 → Mo Int32 := lq2 (f_X2_fillPowers_b4 x0 x1) fuel
set_option maxRecDepth 100000 in
theorem s_X2_fillPowers_b4 {cx : CX} (x0 : (Option Nat)) (x1 : Int32) {k4 : Int32 → Int32 → Mo Int32} (hk4 : ∀ (z2 : Int32) (z3 : Int32), Sn cx m_X2_fillPowers eI 4 [(2, vI z2), (3, vI z3), (0, vA x0), (1, vI x1)] [] (k4 z2 z3)) (x2 : Int32) (x3 : Int32) : Sn cx m_X2_fillPowers eI 4 [(2, vI x2), (3, vI x3), (0, vA x0), (1, vI x1)] [] (f_X2_fillPowers_b4 x0 x1 k4 x2 x3) := by
  refine sn_iload_n (y := m_X2_fillPowers) (pc := 4) dX2_fillPowers_4 rfl ?_
  refine sn_aload_n (y := m_X2_fillPowers) (pc := 5) dX2_fillPowers_5 rfl ?_
  refine sn_getI (y := m_X2_fillPowers) (pc := 6) ca_2 rfl fk_X2_21 (fun _ _ _ => rfl) dX2_fillPowers_6 (fun r1 => ?_)
  refine sn_iconst (y := m_X2_fillPowers) (pc := 9) dX2_fillPowers_9 kc_iconst_1 ?_
  refine sn_isub (y := m_X2_fillPowers) (pc := 10) dX2_fillPowers_10 ?_
  refine sn_icmp_ge (y := m_X2_fillPowers) (pc := 11) (tgt := 61) dX2_fillPowers_11 (by decide) (fun _ => ?_) (fun _ => ?_)
  · refine sn_iconst (y := m_X2_fillPowers) (pc := 61) dX2_fillPowers_61 kc_iconst_1 ?_
    exact sn_zreturnC (by decide) rfl dX2_fillPowers_62
  refine sn_iload_n (y := m_X2_fillPowers) (pc := 14) dX2_fillPowers_14 rfl ?_
  refine sn_if_le (y := m_X2_fillPowers) (pc := 15) (tgt := 25) dX2_fillPowers_15 (by decide) (fun _ => ?_) (fun _ => ?_)
  · exact sn_sub rfl (s_X2_fillPowers_j25 x0 x1 x2 x3 hk4)
  refine sn_iload_n (y := m_X2_fillPowers) (pc := 18) dX2_fillPowers_18 rfl ?_
  refine sn_iconst (y := m_X2_fillPowers) (pc := 19) dX2_fillPowers_19 kc_iconst_1 ?_
  refine sn_icmp_ne (y := m_X2_fillPowers) (pc := 20) (tgt := 25) dX2_fillPowers_20 (by decide) (fun _ => ?_) (fun _ => ?_)
  · exact sn_sub rfl (s_X2_fillPowers_j25 x0 x1 x2 x3 hk4)
  refine sn_iconst (y := m_X2_fillPowers) (pc := 23) dX2_fillPowers_23 kc_iconst_0 ?_
  exact sn_zreturnC (by decide) rfl dX2_fillPowers_24
set_option maxRecDepth 100000 in
theorem s_X2_fillPowers_l4 {cx : CX} (x0 : (Option Nat)) (x1 : Int32) (x2 : Int32) (x3 : Int32) : Sn cx m_X2_fillPowers eI 4 [(2, vI x2), (3, vI x3), (0, vA x0), (1, vI x1)] [] (f_X2_fillPowers_l4 x0 x1 x2 x3) :=
  sn_lq2 (L := fun x2 x3 => [(2, vI x2), (3, vI x3), (0, vA x0), (1, vI x1)]) (fun k hk x2 x3 => s_X2_fillPowers_b4 x0 x1 hk x2 x3) fuel x2 x3
def f_X2_fillPowers (p0 : (Option Nat)) (p1 : Int32) : Mo Int32 :=
  f_X2_fillPowers_l4 p0 p1 (1 : Int32) (0 : Int32)
set_option maxRecDepth 100000 in
theorem s_X2_fillPowers {cx : CX} (p0 : (Option Nat)) (p1 : Int32) : Sn cx m_X2_fillPowers eI 0 [(0, vA p0), (1, vI p1)] [] (f_X2_fillPowers p0 p1) := by
  refine sn_iconst (y := m_X2_fillPowers) (pc := 0) dX2_fillPowers_0 kc_iconst_1 ?_
  refine sn_istore_n (y := m_X2_fillPowers) (pc := 1) dX2_fillPowers_1 rfl ?_
  refine sn_iconst (y := m_X2_fillPowers) (pc := 2) dX2_fillPowers_2 kc_iconst_0 ?_
  refine sn_istore_n (y := m_X2_fillPowers) (pc := 3) dX2_fillPowers_3 rfl ?_
  exact sn_sub rfl (s_X2_fillPowers_l4 p0 p1 (1 : Int32) (0 : Int32))
set_option maxRecDepth 100000 in
theorem c_X2_fillPowers (g : Gl) (p0 : (Option Nat)) (p1 : Int32) : Cn g m_X2_fillPowers eI [vA p0, vI p1] (mCk 2 p0 (f_X2_fillPowers p0 p1)) := cn_of_sn (by decide +kernel) rfl (fun r => ⟨r, rfl⟩) rfl (fun _ _ => sn_ck (s_X2_fillPowers p0 p1))
/-! X2_become -/
def f_X2_become_b12 (x0 : (Option Nat)) (k12 : Int32 → Mo Unit) (x3 : Int32) : Mo Unit :=
  mBd (mGetI 2 3 x0) (fun r1 => (if x3 ≥ r1 then mRt () else mBd (mCk 2 x0 (f_X2_fillPowers x0 x3)) (fun r2 => (if r2 = 0 then k12 (x3 + 1) else mRt ()))))
def f_X2_become_l12 (x0 : (Option Nat)) : Int32 → Mo Unit := lq1 (f_X2_become_b12 x0) fuel
set_option maxRecDepth 100000 in
theorem s_X2_become_b12 {cx : CX} (x0 : (Option Nat)) {k12 : Int32 → Mo Unit} (hk12 : ∀ (z3 : Int32), Sn cx m_X2_become eV 12 [(3, vI z3), (0, vA x0)] [] (k12 z3)) (x3 : Int32) : Sn cx m_X2_become eV 12 [(3, vI x3), (0, vA x0)] [] (f_X2_become_b12 x0 k12 x3) := by
  refine sn_iload_n (y := m_X2_become) (pc := 12) dX2_become_12 rfl ?_
  refine sn_aload_n (y := m_X2_become) (pc := 13) dX2_become_13 rfl ?_
  refine sn_getI (y := m_X2_become) (pc := 14) ca_2 rfl fk_X2_21 (fun _ _ _ => rfl) dX2_become_14 (fun r1 => ?_)
  refine sn_icmp_ge (y := m_X2_become) (pc := 17) (tgt := 35) dX2_become_17 (by decide) (fun _ => ?_) (fun _ => ?_)
  · exact sn_return rfl dX2_become_35
  refine sn_aload_n (y := m_X2_become) (pc := 20) dX2_become_20 rfl ?_
  refine sn_iload_n (y := m_X2_become) (pc := 21) dX2_become_21 rfl ?_
  refine sn_invV (y := m_X2_become) (pc := 22) ca_2 (av := [vI x3]) (o := x0) (st := []) dX2_become_22 lk_X2_28 im_X2_fillPowers se_X2_fillPowers rfl rfl rfl rfl ⟨by decide, by decide⟩ (c_X2_fillPowers cx.1 x0 x3) (fun r2 => ?_)
  refine sn_if_eq (y := m_X2_become) (pc := 25) (tgt := 29) dX2_become_25 (by decide) (fun _ => ?_) (fun _ => ?_)
  · refine sn_iinc (y := m_X2_become) (pc := 29) (v := x3 + 1) dX2_become_29 rfl (by rfl) rfl ?_
    refine sn_goto (y := m_X2_become) (pc := 32) (tgt := 12) dX2_become_32 (by decide) ?_
    exact sn_sub rfl (hk12 (x3 + 1))
  exact sn_return rfl dX2_become_28
set_option maxRecDepth 100000 in
theorem s_X2_become_l12 {cx : CX} (x0 : (Option Nat)) (x3 : Int32) : Sn cx m_X2_become eV 12 [(3, vI x3), (0, vA x0)] [] (f_X2_become_l12 x0 x3) :=
  sn_lq1 (L := fun x3 => [(3, vI x3), (0, vA x0)]) (fun k hk x3 => s_X2_become_b12 x0 hk x3) fuel x3
def f_X2_become (p0 : (Option Nat)) (p1 : Int32) (p2 : Int32) : Mo Unit :=
  mBd (mPutI 2 3 p0 p1) (fun _ => mBd (mPutI 2 4 p0 p2) (fun _ => f_X2_become_l12 p0 (2 : Int32)))
set_option maxRecDepth 100000 in
theorem s_X2_become {cx : CX} (p0 : (Option Nat)) (p1 : Int32) (p2 : Int32) : Sn cx m_X2_become eV 0 [(0, vA p0), (1, vI p1), (2, vI p2)] [] (f_X2_become p0 p1 p2) := by
  refine sn_aload_n (y := m_X2_become) (pc := 0) dX2_become_0 rfl ?_
  refine sn_iload_n (y := m_X2_become) (pc := 1) dX2_become_1 rfl ?_
  refine sn_putI (y := m_X2_become) (pc := 2) ca_2 rfl fk_X2_21 (Or.inl rfl) rfl dX2_become_2 ?_
  refine sn_aload_n (y := m_X2_become) (pc := 5) dX2_become_5 rfl ?_
  refine sn_iload_n (y := m_X2_become) (pc := 6) dX2_become_6 rfl ?_
  refine sn_putI (y := m_X2_become) (pc := 7) ca_2 rfl fk_X2_25 (Or.inl rfl) rfl dX2_become_7 ?_
  refine sn_iconst (y := m_X2_become) (pc := 10) dX2_become_10 kc_iconst_2 ?_
  refine sn_istore_n (y := m_X2_become) (pc := 11) dX2_become_11 rfl ?_
  exact sn_sub rfl (s_X2_become_l12 p0 (2 : Int32))
set_option maxRecDepth 100000 in
theorem c_X2_become (g : Gl) (p0 : (Option Nat)) (p1 : Int32) (p2 : Int32) : Cn g m_X2_become eV [vA p0, vI p1, vI p2] (mCk 2 p0 (f_X2_become p0 p1 p2)) := cn_of_sn (by decide +kernel) rfl (fun _ => rfl) rfl (fun _ _ => sn_ck (s_X2_become p0 p1 p2))
/-! X0_tellField -/
def f_X0_tellField (p0 : (Option Nat)) (p1 : Int64) (p3 : Int32) (p4 : Int32) : Mo Unit :=
  mBd (mGetI 0 7 p0) (fun r1 => mBd (mGetA 0 0 p0) (fun r2 => mBd (mLen r2) (fun r3 => (if r1 ≥ r3 then mRt () else mBd (mGetA 0 0 p0) (fun r4 => mBd (mGetI 0 7 p0) (fun r5 => mBd (mLdA 4 r4 r5) (fun r6 => (if r6 = none then mRt () else mBd (mGetA 0 0 p0) (fun r7 => mBd (mGetI 0 7 p0) (fun r8 => mBd (mLdA 4 r7 r8) (fun r9 => mBd (mCk 2 r9 (f_X2_become r9 p3 p4)) (fun _ => mBd (mGetI 0 7 p0) (fun r10 => mBd (mCk 0 p0 (f_X0_tell p0 p1 (1 : Int32) r10)) (fun _ => mBd (mGetI 0 7 p0) (fun r11 => mBd (mPutI 0 7 p0 (r11 + (1 : Int32))) (fun _ => mRt ()))))))))))))))))
set_option maxRecDepth 100000 in
theorem s_X0_tellField {cx : CX} (p0 : (Option Nat)) (p1 : Int64) (p3 : Int32) (p4 : Int32) : Sn cx m_X0_tellField eV 0 [(0, vA p0), (1, vJ p1), (3, vI p3), (4, vI p4)] [] (f_X0_tellField p0 p1 p3 p4) := by
  refine sn_aload_n (y := m_X0_tellField) (pc := 0) dX0_tellField_0 rfl ?_
  refine sn_getI (y := m_X0_tellField) (pc := 1) ca_0 rfl fk_X0_44 (fun _ _ _ => rfl) dX0_tellField_1 (fun r1 => ?_)
  refine sn_aload_n (y := m_X0_tellField) (pc := 4) dX0_tellField_4 rfl ?_
  refine sn_getA (y := m_X0_tellField) (pc := 5) ca_0 rfl fk_X0_13 (fun _ _ _ => rfl) dX0_tellField_5 (fun r2 => ?_)
  refine sn_alen (y := m_X0_tellField) (pc := 8) dX0_tellField_8 (fun r3 => ?_)
  refine sn_icmp_ge (y := m_X0_tellField) (pc := 9) (tgt := 59) dX0_tellField_9 (by decide) (fun _ => ?_) (fun _ => ?_)
  · exact sn_return rfl dX0_tellField_59
  refine sn_aload_n (y := m_X0_tellField) (pc := 12) dX0_tellField_12 rfl ?_
  refine sn_getA (y := m_X0_tellField) (pc := 13) ca_0 rfl fk_X0_13 (fun _ _ _ => rfl) dX0_tellField_13 (fun r4 => ?_)
  refine sn_aload_n (y := m_X0_tellField) (pc := 16) dX0_tellField_16 rfl ?_
  refine sn_getI (y := m_X0_tellField) (pc := 17) ca_0 rfl fk_X0_44 (fun _ _ _ => rfl) dX0_tellField_17 (fun r5 => ?_)
  refine sn_aaload (y := m_X0_tellField) (pc := 20) dX0_tellField_20 (fun r6 => ?_)
  refine sn_ifnull (y := m_X0_tellField) (pc := 21) (tgt := 59) dX0_tellField_21 (by decide) ?_ ?_
  · exact sn_return rfl dX0_tellField_59
  refine sn_aload_n (y := m_X0_tellField) (pc := 24) dX0_tellField_24 rfl ?_
  refine sn_getA (y := m_X0_tellField) (pc := 25) ca_0 rfl fk_X0_13 (fun _ _ _ => rfl) dX0_tellField_25 (fun r7 => ?_)
  refine sn_aload_n (y := m_X0_tellField) (pc := 28) dX0_tellField_28 rfl ?_
  refine sn_getI (y := m_X0_tellField) (pc := 29) ca_0 rfl fk_X0_44 (fun _ _ _ => rfl) dX0_tellField_29 (fun r8 => ?_)
  refine sn_aaload (y := m_X0_tellField) (pc := 32) dX0_tellField_32 (fun r9 => ?_)
  refine sn_iload_n (y := m_X0_tellField) (pc := 33) dX0_tellField_33 rfl ?_
  refine sn_iload (y := m_X0_tellField) (pc := 34) dX0_tellField_34 rfl ?_
  refine sn_invV (y := m_X0_tellField) (pc := 36) ca_2 (av := [vI p3, vI p4]) (o := r9) (st := []) dX0_tellField_36 lk_X0_81 im_X2_become se_X2_become rfl rfl rfl rfl ⟨by decide, by decide⟩ (c_X2_become cx.1 r9 p3 p4) (fun _ => ?_)
  refine sn_aload_n (y := m_X0_tellField) (pc := 39) dX0_tellField_39 rfl ?_
  refine sn_lload_n (y := m_X0_tellField) (pc := 40) dX0_tellField_40 rfl ?_
  refine sn_iconst (y := m_X0_tellField) (pc := 41) dX0_tellField_41 kc_iconst_1 ?_
  refine sn_aload_n (y := m_X0_tellField) (pc := 42) dX0_tellField_42 rfl ?_
  refine sn_getI (y := m_X0_tellField) (pc := 43) ca_0 rfl fk_X0_44 (fun _ _ _ => rfl) dX0_tellField_43 (fun r10 => ?_)
  refine sn_invV (y := m_X0_tellField) (pc := 46) ca_0 (av := [vJ p1, vI (1 : Int32), vI r10]) (o := p0) (st := []) dX0_tellField_46 lk_X0_85 im_X0_tell se_X0_tell rfl rfl rfl rfl ⟨by decide, by decide⟩ (c_X0_tell cx.1 p0 p1 (1 : Int32) r10) (fun _ => ?_)
  refine sn_aload_n (y := m_X0_tellField) (pc := 49) dX0_tellField_49 rfl ?_
  refine sn_dup (y := m_X0_tellField) (pc := 50) rfl dX0_tellField_50 ?_
  refine sn_getI (y := m_X0_tellField) (pc := 51) ca_0 rfl fk_X0_44 (fun _ _ _ => rfl) dX0_tellField_51 (fun r11 => ?_)
  refine sn_iconst (y := m_X0_tellField) (pc := 54) dX0_tellField_54 kc_iconst_1 ?_
  refine sn_iadd (y := m_X0_tellField) (pc := 55) dX0_tellField_55 ?_
  refine sn_putI (y := m_X0_tellField) (pc := 56) ca_0 rfl fk_X0_44 (Or.inl rfl) rfl dX0_tellField_56 ?_
  exact sn_return rfl dX0_tellField_59
set_option maxRecDepth 100000 in
theorem c_X0_tellField (g : Gl) (p0 : (Option Nat)) (p1 : Int64) (p3 : Int32) (p4 : Int32) : Cn g m_X0_tellField eV [vA p0, vJ p1, vI p3, vI p4] (mCk 0 p0 (f_X0_tellField p0 p1 p3 p4)) := cn_of_sn (by decide +kernel) rfl (fun _ => rfl) rfl (fun _ _ => sn_ck (s_X0_tellField p0 p1 p3 p4))
/-! X0_nextEquation -/
def f_X0_nextEquation (p0 : (Option Nat)) : Mo (Option Nat) :=
  mBd (mGetI 0 8 p0) (fun r1 => mBd (mGetA 0 1 p0) (fun r2 => mBd (mLen r2) (fun r3 => (if r1 ≥ r3 then mRt none else mBd (mGetA 0 1 p0) (fun r4 => mBd (mGetI 0 8 p0) (fun r5 => mBd (mLdA 5 r4 r5) (fun r6 => mRt r6)))))))
set_option maxRecDepth 100000 in
theorem s_X0_nextEquation {cx : CX} (p0 : (Option Nat)) : Sn cx m_X0_nextEquation eA 0 [(0, vA p0)] [] (f_X0_nextEquation p0) := by
  refine sn_aload_n (y := m_X0_nextEquation) (pc := 0) dX0_nextEquation_0 rfl ?_
  refine sn_getI (y := m_X0_nextEquation) (pc := 1) ca_0 rfl fk_X0_48 (fun _ _ _ => rfl) dX0_nextEquation_1 (fun r1 => ?_)
  refine sn_aload_n (y := m_X0_nextEquation) (pc := 4) dX0_nextEquation_4 rfl ?_
  refine sn_getA (y := m_X0_nextEquation) (pc := 5) ca_0 rfl fk_X0_19 (fun _ _ _ => rfl) dX0_nextEquation_5 (fun r2 => ?_)
  refine sn_alen (y := m_X0_nextEquation) (pc := 8) dX0_nextEquation_8 (fun r3 => ?_)
  refine sn_icmp_ge (y := m_X0_nextEquation) (pc := 9) (tgt := 24) dX0_nextEquation_9 (by decide) (fun _ => ?_) (fun _ => ?_)
  · refine sn_anull (y := m_X0_nextEquation) (pc := 24) dX0_nextEquation_24 ?_
    exact sn_areturn (Or.inl ⟨_, rfl⟩) dX0_nextEquation_25
  refine sn_aload_n (y := m_X0_nextEquation) (pc := 12) dX0_nextEquation_12 rfl ?_
  refine sn_getA (y := m_X0_nextEquation) (pc := 13) ca_0 rfl fk_X0_19 (fun _ _ _ => rfl) dX0_nextEquation_13 (fun r4 => ?_)
  refine sn_aload_n (y := m_X0_nextEquation) (pc := 16) dX0_nextEquation_16 rfl ?_
  refine sn_getI (y := m_X0_nextEquation) (pc := 17) ca_0 rfl fk_X0_48 (fun _ _ _ => rfl) dX0_nextEquation_17 (fun r5 => ?_)
  refine sn_aaload (y := m_X0_nextEquation) (pc := 20) dX0_nextEquation_20 (fun r6 => ?_)
  refine sn_goto (y := m_X0_nextEquation) (pc := 21) (tgt := 25) dX0_nextEquation_21 (by decide) ?_
  exact sn_areturn (Or.inl ⟨_, rfl⟩) dX0_nextEquation_25
set_option maxRecDepth 100000 in
theorem c_X0_nextEquation (g : Gl) (p0 : (Option Nat)) : Cn g m_X0_nextEquation eA [vA p0] (mCk 0 p0 (f_X0_nextEquation p0)) := cn_of_sn (by decide +kernel) rfl (fun r => ⟨r, rfl⟩) rfl (fun _ _ => sn_ck (s_X0_nextEquation p0))
/-! X0_tellEquation -/
def f_X0_tellEquation (p0 : (Option Nat)) (p1 : Int64) : Mo Unit :=
  mBd (mGetI 0 8 p0) (fun r1 => mBd (mCk 0 p0 (f_X0_tell p0 p1 (2 : Int32) r1)) (fun _ => mBd (mGetI 0 8 p0) (fun r2 => mBd (mPutI 0 8 p0 (r2 + (1 : Int32))) (fun _ => mRt ()))))
set_option maxRecDepth 100000 in
theorem s_X0_tellEquation {cx : CX} (p0 : (Option Nat)) (p1 : Int64) : Sn cx m_X0_tellEquation eV 0 [(0, vA p0), (1, vJ p1)] [] (f_X0_tellEquation p0 p1) := by
  refine sn_aload_n (y := m_X0_tellEquation) (pc := 0) dX0_tellEquation_0 rfl ?_
  refine sn_lload_n (y := m_X0_tellEquation) (pc := 1) dX0_tellEquation_1 rfl ?_
  refine sn_iconst (y := m_X0_tellEquation) (pc := 2) dX0_tellEquation_2 kc_iconst_2 ?_
  refine sn_aload_n (y := m_X0_tellEquation) (pc := 3) dX0_tellEquation_3 rfl ?_
  refine sn_getI (y := m_X0_tellEquation) (pc := 4) ca_0 rfl fk_X0_48 (fun _ _ _ => rfl) dX0_tellEquation_4 (fun r1 => ?_)
  refine sn_invV (y := m_X0_tellEquation) (pc := 7) ca_0 (av := [vJ p1, vI (2 : Int32), vI r1]) (o := p0) (st := []) dX0_tellEquation_7 lk_X0_85 im_X0_tell se_X0_tell rfl rfl rfl rfl ⟨by decide, by decide⟩ (c_X0_tell cx.1 p0 p1 (2 : Int32) r1) (fun _ => ?_)
  refine sn_aload_n (y := m_X0_tellEquation) (pc := 10) dX0_tellEquation_10 rfl ?_
  refine sn_dup (y := m_X0_tellEquation) (pc := 11) rfl dX0_tellEquation_11 ?_
  refine sn_getI (y := m_X0_tellEquation) (pc := 12) ca_0 rfl fk_X0_48 (fun _ _ _ => rfl) dX0_tellEquation_12 (fun r2 => ?_)
  refine sn_iconst (y := m_X0_tellEquation) (pc := 15) dX0_tellEquation_15 kc_iconst_1 ?_
  refine sn_iadd (y := m_X0_tellEquation) (pc := 16) dX0_tellEquation_16 ?_
  refine sn_putI (y := m_X0_tellEquation) (pc := 17) ca_0 rfl fk_X0_48 (Or.inl rfl) rfl dX0_tellEquation_17 ?_
  exact sn_return rfl dX0_tellEquation_20
set_option maxRecDepth 100000 in
theorem c_X0_tellEquation (g : Gl) (p0 : (Option Nat)) (p1 : Int64) : Cn g m_X0_tellEquation eV [vA p0, vJ p1] (mCk 0 p0 (f_X0_tellEquation p0 p1)) := cn_of_sn (by decide +kernel) rfl (fun _ => rfl) rfl (fun _ _ => sn_ck (s_X0_tellEquation p0 p1))
/-! X6_copy -/
def f_X6_copy_b2 (x0 : (Option Nat)) (x1 : (Option Nat)) (k2 : Int32 → Mo Unit) (x2 : Int32) : Mo Unit :=
  (if x1 = none then mRt () else mBd (mLen x1) (fun r1 => (if x2 ≥ r1 then mRt () else (if x0 = none then mBd (mStJ x1 x2 (0 : Int64)) (fun _ => k2 (x2 + 1)) else mBd (mLen x0) (fun r2 => (if x2 ≥ r2 then mBd (mStJ x1 x2 (0 : Int64)) (fun _ => k2 (x2 + 1)) else mBd (mLdJ x0 x2) (fun r3 => mBd (mStJ x1 x2 r3) (fun _ => k2 (x2 + 1)))))))))
def f_X6_copy_l2 (x0 : (Option Nat)) (x1 : (Option Nat)) : Int32 → Mo Unit := lq1 (f_X6_copy_b2 x0 x1) fuel
set_option maxRecDepth 100000 in
theorem s_X6_copy_b2 {cx : CX} (x0 : (Option Nat)) (x1 : (Option Nat)) {k2 : Int32 → Mo Unit} (hk2 : ∀ (z2 : Int32), Sn cx m_X6_copy eV 2 [(2, vI z2), (0, vA x0), (1, vA x1)] [] (k2 z2)) (x2 : Int32) : Sn cx m_X6_copy eV 2 [(2, vI x2), (0, vA x0), (1, vA x1)] [] (f_X6_copy_b2 x0 x1 k2 x2) := by
  refine sn_aload_n (y := m_X6_copy) (pc := 2) dX6_copy_2 rfl ?_
  refine sn_ifnull (y := m_X6_copy) (pc := 3) (tgt := 38) dX6_copy_3 (by decide) ?_ ?_
  · exact sn_return rfl dX6_copy_38
  refine sn_iload_n (y := m_X6_copy) (pc := 6) dX6_copy_6 rfl ?_
  refine sn_aload_n (y := m_X6_copy) (pc := 7) dX6_copy_7 rfl ?_
  refine sn_alen (y := m_X6_copy) (pc := 8) dX6_copy_8 (fun r1 => ?_)
  refine sn_icmp_ge (y := m_X6_copy) (pc := 9) (tgt := 38) dX6_copy_9 (by decide) (fun _ => ?_) (fun _ => ?_)
  · exact sn_return rfl dX6_copy_38
  refine sn_aload_n (y := m_X6_copy) (pc := 12) dX6_copy_12 rfl ?_
  refine sn_iload_n (y := m_X6_copy) (pc := 13) dX6_copy_13 rfl ?_
  refine sn_aload_n (y := m_X6_copy) (pc := 14) dX6_copy_14 rfl ?_
  refine sn_ifnull (y := m_X6_copy) (pc := 15) (tgt := 30) dX6_copy_15 (by decide) ?_ ?_
  · refine sn_lconst (y := m_X6_copy) (pc := 30) dX6_copy_30 kc_lconst_0 ?_
    refine sn_lastore (y := m_X6_copy) (pc := 31) dX6_copy_31 ?_
    refine sn_iinc (y := m_X6_copy) (pc := 32) (v := x2 + 1) dX6_copy_32 rfl (by rfl) rfl ?_
    refine sn_goto (y := m_X6_copy) (pc := 35) (tgt := 2) dX6_copy_35 (by decide) ?_
    exact sn_sub rfl (hk2 (x2 + 1))
  refine sn_iload_n (y := m_X6_copy) (pc := 18) dX6_copy_18 rfl ?_
  refine sn_aload_n (y := m_X6_copy) (pc := 19) dX6_copy_19 rfl ?_
  refine sn_alen (y := m_X6_copy) (pc := 20) dX6_copy_20 (fun r2 => ?_)
  refine sn_icmp_ge (y := m_X6_copy) (pc := 21) (tgt := 30) dX6_copy_21 (by decide) (fun _ => ?_) (fun _ => ?_)
  · refine sn_lconst (y := m_X6_copy) (pc := 30) dX6_copy_30 kc_lconst_0 ?_
    refine sn_lastore (y := m_X6_copy) (pc := 31) dX6_copy_31 ?_
    refine sn_iinc (y := m_X6_copy) (pc := 32) (v := x2 + 1) dX6_copy_32 rfl (by rfl) rfl ?_
    refine sn_goto (y := m_X6_copy) (pc := 35) (tgt := 2) dX6_copy_35 (by decide) ?_
    exact sn_sub rfl (hk2 (x2 + 1))
  refine sn_aload_n (y := m_X6_copy) (pc := 24) dX6_copy_24 rfl ?_
  refine sn_iload_n (y := m_X6_copy) (pc := 25) dX6_copy_25 rfl ?_
  refine sn_laload (y := m_X6_copy) (pc := 26) dX6_copy_26 (fun r3 => ?_)
  refine sn_goto (y := m_X6_copy) (pc := 27) (tgt := 31) dX6_copy_27 (by decide) ?_
  refine sn_lastore (y := m_X6_copy) (pc := 31) dX6_copy_31 ?_
  refine sn_iinc (y := m_X6_copy) (pc := 32) (v := x2 + 1) dX6_copy_32 rfl (by rfl) rfl ?_
  refine sn_goto (y := m_X6_copy) (pc := 35) (tgt := 2) dX6_copy_35 (by decide) ?_
  exact sn_sub rfl (hk2 (x2 + 1))
set_option maxRecDepth 100000 in
theorem s_X6_copy_l2 {cx : CX} (x0 : (Option Nat)) (x1 : (Option Nat)) (x2 : Int32) : Sn cx m_X6_copy eV 2 [(2, vI x2), (0, vA x0), (1, vA x1)] [] (f_X6_copy_l2 x0 x1 x2) :=
  sn_lq1 (L := fun x2 => [(2, vI x2), (0, vA x0), (1, vA x1)]) (fun k hk x2 => s_X6_copy_b2 x0 x1 hk x2) fuel x2
def f_X6_copy (p0 : (Option Nat)) (p1 : (Option Nat)) : Mo Unit :=
  f_X6_copy_l2 p0 p1 (0 : Int32)
set_option maxRecDepth 100000 in
theorem s_X6_copy {cx : CX} (p0 : (Option Nat)) (p1 : (Option Nat)) : Sn cx m_X6_copy eV 0 [(0, vA p0), (1, vA p1)] [] (f_X6_copy p0 p1) := by
  refine sn_iconst (y := m_X6_copy) (pc := 0) dX6_copy_0 kc_iconst_0 ?_
  refine sn_istore_n (y := m_X6_copy) (pc := 1) dX6_copy_1 rfl ?_
  exact sn_sub rfl (s_X6_copy_l2 p0 p1 (0 : Int32))
set_option maxRecDepth 100000 in
theorem c_X6_copy (g : Gl) (p0 : (Option Nat)) (p1 : (Option Nat)) : Cn g m_X6_copy eV [vA p0, vA p1] (f_X6_copy p0 p1) := cn_of_sn (by decide +kernel) rfl (fun _ => rfl) rfl (fun _ _ => s_X6_copy p0 p1)
/-! X0_tellLet -/
def f_X0_tellLet (p0 : (Option Nat)) (p1 : Int64) (p3 : Int32) (p4 : (Option Nat)) : Mo Unit :=
  mBd (mGetA 0 2 p0) (fun r1 => mBd (mGetI 0 9 p0) (fun r2 => mBd (f_X6_rowAt r1 r2) (fun r3 => mBd (f_X6_copy p4 r3) (fun _ => mBd (mGetA 0 3 p0) (fun r4 => mBd (mGetI 0 9 p0) (fun r5 => mBd (f_X6_mark r4 r5 p3) (fun _ => mBd (mGetI 0 9 p0) (fun r6 => mBd (mCk 0 p0 (f_X0_tell p0 p1 (3 : Int32) r6)) (fun _ => mBd (mGetI 0 9 p0) (fun r7 => mBd (mPutI 0 9 p0 (r7 + (1 : Int32))) (fun _ => mRt ())))))))))))
set_option maxRecDepth 100000 in
theorem s_X0_tellLet {cx : CX} (p0 : (Option Nat)) (p1 : Int64) (p3 : Int32) (p4 : (Option Nat)) : Sn cx m_X0_tellLet eV 0 [(0, vA p0), (1, vJ p1), (3, vI p3), (4, vA p4)] [] (f_X0_tellLet p0 p1 p3 p4) := by
  refine sn_aload (y := m_X0_tellLet) (pc := 0) dX0_tellLet_0 rfl ?_
  refine sn_aload_n (y := m_X0_tellLet) (pc := 2) dX0_tellLet_2 rfl ?_
  refine sn_getA (y := m_X0_tellLet) (pc := 3) ca_0 rfl fk_X0_27 (fun _ _ _ => rfl) dX0_tellLet_3 (fun r1 => ?_)
  refine sn_aload_n (y := m_X0_tellLet) (pc := 6) dX0_tellLet_6 rfl ?_
  refine sn_getI (y := m_X0_tellLet) (pc := 7) ca_0 rfl fk_X0_51 (fun _ _ _ => rfl) dX0_tellLet_7 (fun r2 => ?_)
  refine sn_invS (y := m_X0_tellLet) (pc := 10) (av := [vA r1, vI r2]) (st := [vA p4]) dX0_tellLet_10 lk_X0_65 sw_X6_rowAt rfl rfl rfl ⟨by decide, by decide⟩ (c_X6_rowAt cx.1 r1 r2) (fun r3 => ?_)
  refine sn_invS (y := m_X0_tellLet) (pc := 13) (av := [vA p4, vA r3]) (st := []) dX0_tellLet_13 lk_X0_89 sw_X6_copy rfl rfl rfl ⟨by decide, by decide⟩ (c_X6_copy cx.1 p4 r3) (fun _ => ?_)
  refine sn_aload_n (y := m_X0_tellLet) (pc := 16) dX0_tellLet_16 rfl ?_
  refine sn_getA (y := m_X0_tellLet) (pc := 17) ca_0 rfl fk_X0_30 (fun _ _ _ => rfl) dX0_tellLet_17 (fun r4 => ?_)
  refine sn_aload_n (y := m_X0_tellLet) (pc := 20) dX0_tellLet_20 rfl ?_
  refine sn_getI (y := m_X0_tellLet) (pc := 21) ca_0 rfl fk_X0_51 (fun _ _ _ => rfl) dX0_tellLet_21 (fun r5 => ?_)
  refine sn_iload_n (y := m_X0_tellLet) (pc := 24) dX0_tellLet_24 rfl ?_
  refine sn_invS (y := m_X0_tellLet) (pc := 25) (av := [vA r4, vI r5, vI p3]) (st := []) dX0_tellLet_25 lk_X0_77 sw_X6_mark rfl rfl rfl ⟨by decide, by decide⟩ (c_X6_mark cx.1 r4 r5 p3) (fun _ => ?_)
  refine sn_aload_n (y := m_X0_tellLet) (pc := 28) dX0_tellLet_28 rfl ?_
  refine sn_lload_n (y := m_X0_tellLet) (pc := 29) dX0_tellLet_29 rfl ?_
  refine sn_iconst (y := m_X0_tellLet) (pc := 30) dX0_tellLet_30 kc_iconst_3 ?_
  refine sn_aload_n (y := m_X0_tellLet) (pc := 31) dX0_tellLet_31 rfl ?_
  refine sn_getI (y := m_X0_tellLet) (pc := 32) ca_0 rfl fk_X0_51 (fun _ _ _ => rfl) dX0_tellLet_32 (fun r6 => ?_)
  refine sn_invV (y := m_X0_tellLet) (pc := 35) ca_0 (av := [vJ p1, vI (3 : Int32), vI r6]) (o := p0) (st := []) dX0_tellLet_35 lk_X0_85 im_X0_tell se_X0_tell rfl rfl rfl rfl ⟨by decide, by decide⟩ (c_X0_tell cx.1 p0 p1 (3 : Int32) r6) (fun _ => ?_)
  refine sn_aload_n (y := m_X0_tellLet) (pc := 38) dX0_tellLet_38 rfl ?_
  refine sn_dup (y := m_X0_tellLet) (pc := 39) rfl dX0_tellLet_39 ?_
  refine sn_getI (y := m_X0_tellLet) (pc := 40) ca_0 rfl fk_X0_51 (fun _ _ _ => rfl) dX0_tellLet_40 (fun r7 => ?_)
  refine sn_iconst (y := m_X0_tellLet) (pc := 43) dX0_tellLet_43 kc_iconst_1 ?_
  refine sn_iadd (y := m_X0_tellLet) (pc := 44) dX0_tellLet_44 ?_
  refine sn_putI (y := m_X0_tellLet) (pc := 45) ca_0 rfl fk_X0_51 (Or.inl rfl) rfl dX0_tellLet_45 ?_
  exact sn_return rfl dX0_tellLet_48
set_option maxRecDepth 100000 in
theorem c_X0_tellLet (g : Gl) (p0 : (Option Nat)) (p1 : Int64) (p3 : Int32) (p4 : (Option Nat)) : Cn g m_X0_tellLet eV [vA p0, vJ p1, vI p3, vA p4] (mCk 0 p0 (f_X0_tellLet p0 p1 p3 p4)) := cn_of_sn (by decide +kernel) rfl (fun _ => rfl) rfl (fun _ _ => sn_ck (s_X0_tellLet p0 p1 p3 p4))
/-! X1_begin -/
def f_X1_begin (p0 : (Option Nat)) (p1 : Int32) : Mo Unit :=
  mBd (mPutI 1 4 p0 p1) (fun _ => mBd (mPutI 1 5 p0 (0 : Int32)) (fun _ => mRt ()))
set_option maxRecDepth 100000 in
theorem s_X1_begin {cx : CX} (p0 : (Option Nat)) (p1 : Int32) : Sn cx m_X1_begin eV 0 [(0, vA p0), (1, vI p1)] [] (f_X1_begin p0 p1) := by
  refine sn_aload_n (y := m_X1_begin) (pc := 0) dX1_begin_0 rfl ?_
  refine sn_iload_n (y := m_X1_begin) (pc := 1) dX1_begin_1 rfl ?_
  refine sn_putI (y := m_X1_begin) (pc := 2) ca_1 rfl fk_X1_25 (Or.inl rfl) rfl dX1_begin_2 ?_
  refine sn_aload_n (y := m_X1_begin) (pc := 5) dX1_begin_5 rfl ?_
  refine sn_iconst (y := m_X1_begin) (pc := 6) dX1_begin_6 kc_iconst_0 ?_
  refine sn_putI (y := m_X1_begin) (pc := 7) ca_1 rfl fk_X1_29 (Or.inl rfl) rfl dX1_begin_7 ?_
  exact sn_return rfl dX1_begin_10
set_option maxRecDepth 100000 in
theorem c_X1_begin (g : Gl) (p0 : (Option Nat)) (p1 : Int32) : Cn g m_X1_begin eV [vA p0, vI p1] (mCk 1 p0 (f_X1_begin p0 p1)) := cn_of_sn (by decide +kernel) rfl (fun _ => rfl) rfl (fun _ _ => sn_ck (s_X1_begin p0 p1))
/-! X1_append -/
def f_X1_append (p0 : (Option Nat)) (p1 : Int32) (p2 : Int32) : Mo Unit :=
  mBd (mGetA 1 0 p0) (fun r1 => mBd (mGetI 1 5 p0) (fun r2 => mBd (f_X6_mark r1 r2 p1) (fun _ => mBd (mGetA 1 1 p0) (fun r3 => mBd (mGetI 1 5 p0) (fun r4 => mBd (f_X6_mark r3 r4 p2) (fun _ => mBd (mGetI 1 5 p0) (fun r5 => mBd (mPutI 1 5 p0 (r5 + (1 : Int32))) (fun _ => mRt ()))))))))
set_option maxRecDepth 100000 in
theorem s_X1_append {cx : CX} (p0 : (Option Nat)) (p1 : Int32) (p2 : Int32) : Sn cx m_X1_append eV 0 [(0, vA p0), (1, vI p1), (2, vI p2)] [] (f_X1_append p0 p1 p2) := by
  refine sn_aload_n (y := m_X1_append) (pc := 0) dX1_append_0 rfl ?_
  refine sn_getA (y := m_X1_append) (pc := 1) ca_1 rfl fk_X1_9 (fun _ _ _ => rfl) dX1_append_1 (fun r1 => ?_)
  refine sn_aload_n (y := m_X1_append) (pc := 4) dX1_append_4 rfl ?_
  refine sn_getI (y := m_X1_append) (pc := 5) ca_1 rfl fk_X1_29 (fun _ _ _ => rfl) dX1_append_5 (fun r2 => ?_)
  refine sn_iload_n (y := m_X1_append) (pc := 8) dX1_append_8 rfl ?_
  refine sn_invS (y := m_X1_append) (pc := 9) (av := [vA r1, vI r2, vI p1]) (st := []) dX1_append_9 lk_X1_35 sw_X6_mark rfl rfl rfl ⟨by decide, by decide⟩ (c_X6_mark cx.1 r1 r2 p1) (fun _ => ?_)
  refine sn_aload_n (y := m_X1_append) (pc := 12) dX1_append_12 rfl ?_
  refine sn_getA (y := m_X1_append) (pc := 13) ca_1 rfl fk_X1_13 (fun _ _ _ => rfl) dX1_append_13 (fun r3 => ?_)
  refine sn_aload_n (y := m_X1_append) (pc := 16) dX1_append_16 rfl ?_
  refine sn_getI (y := m_X1_append) (pc := 17) ca_1 rfl fk_X1_29 (fun _ _ _ => rfl) dX1_append_17 (fun r4 => ?_)
  refine sn_iload_n (y := m_X1_append) (pc := 20) dX1_append_20 rfl ?_
  refine sn_invS (y := m_X1_append) (pc := 21) (av := [vA r3, vI r4, vI p2]) (st := []) dX1_append_21 lk_X1_35 sw_X6_mark rfl rfl rfl ⟨by decide, by decide⟩ (c_X6_mark cx.1 r3 r4 p2) (fun _ => ?_)
  refine sn_aload_n (y := m_X1_append) (pc := 24) dX1_append_24 rfl ?_
  refine sn_dup (y := m_X1_append) (pc := 25) rfl dX1_append_25 ?_
  refine sn_getI (y := m_X1_append) (pc := 26) ca_1 rfl fk_X1_29 (fun _ _ _ => rfl) dX1_append_26 (fun r5 => ?_)
  refine sn_iconst (y := m_X1_append) (pc := 29) dX1_append_29 kc_iconst_1 ?_
  refine sn_iadd (y := m_X1_append) (pc := 30) dX1_append_30 ?_
  refine sn_putI (y := m_X1_append) (pc := 31) ca_1 rfl fk_X1_29 (Or.inl rfl) rfl dX1_append_31 ?_
  exact sn_return rfl dX1_append_34
set_option maxRecDepth 100000 in
theorem c_X1_append (g : Gl) (p0 : (Option Nat)) (p1 : Int32) (p2 : Int32) : Cn g m_X1_append eV [vA p0, vI p1, vI p2] (mCk 1 p0 (f_X1_append p0 p1 p2)) := cn_of_sn (by decide +kernel) rfl (fun _ => rfl) rfl (fun _ _ => sn_ck (s_X1_append p0 p1 p2))
/-! X1_close -/
def f_X1_close (p0 : (Option Nat)) (p1 : Int32) : Mo Unit :=
  mBd (mPutI 1 6 p0 p1) (fun _ => mRt ())
set_option maxRecDepth 100000 in
theorem s_X1_close {cx : CX} (p0 : (Option Nat)) (p1 : Int32) : Sn cx m_X1_close eV 0 [(0, vA p0), (1, vI p1)] [] (f_X1_close p0 p1) := by
  refine sn_aload_n (y := m_X1_close) (pc := 0) dX1_close_0 rfl ?_
  refine sn_iload_n (y := m_X1_close) (pc := 1) dX1_close_1 rfl ?_
  refine sn_putI (y := m_X1_close) (pc := 2) ca_1 rfl fk_X1_32 (Or.inl rfl) rfl dX1_close_2 ?_
  exact sn_return rfl dX1_close_5
set_option maxRecDepth 100000 in
theorem c_X1_close (g : Gl) (p0 : (Option Nat)) (p1 : Int32) : Cn g m_X1_close eV [vA p0, vI p1] (mCk 1 p0 (f_X1_close p0 p1)) := cn_of_sn (by decide +kernel) rfl (fun _ => rfl) rfl (fun _ _ => sn_ck (s_X1_close p0 p1))
/-! X1_isFull -/
def f_X1_isFull (p0 : (Option Nat)) : Mo Int32 :=
  mBd (mGetI 1 5 p0) (fun r1 => (if r1 < (3 : Int32) then mRt (0 : Int32) else mRt (1 : Int32)))
set_option maxRecDepth 100000 in
theorem s_X1_isFull {cx : CX} (p0 : (Option Nat)) : Sn cx m_X1_isFull eI 0 [(0, vA p0)] [] (f_X1_isFull p0) := by
  refine sn_aload_n (y := m_X1_isFull) (pc := 0) dX1_isFull_0 rfl ?_
  refine sn_getI (y := m_X1_isFull) (pc := 1) ca_1 rfl fk_X1_29 (fun _ _ _ => rfl) dX1_isFull_1 (fun r1 => ?_)
  refine sn_iconst (y := m_X1_isFull) (pc := 4) dX1_isFull_4 kc_iconst_3 ?_
  refine sn_icmp_lt (y := m_X1_isFull) (pc := 5) (tgt := 12) dX1_isFull_5 (by decide) (fun _ => ?_) (fun _ => ?_)
  · refine sn_iconst (y := m_X1_isFull) (pc := 12) dX1_isFull_12 kc_iconst_0 ?_
    exact sn_zreturnC (by decide) rfl dX1_isFull_13
  refine sn_iconst (y := m_X1_isFull) (pc := 8) dX1_isFull_8 kc_iconst_1 ?_
  refine sn_goto (y := m_X1_isFull) (pc := 9) (tgt := 13) dX1_isFull_9 (by decide) ?_
  exact sn_zreturnC (by decide) rfl dX1_isFull_13
set_option maxRecDepth 100000 in
theorem c_X1_isFull (g : Gl) (p0 : (Option Nat)) : Cn g m_X1_isFull eI [vA p0] (mCk 1 p0 (f_X1_isFull p0)) := cn_of_sn (by decide +kernel) rfl (fun r => ⟨r, rfl⟩) rfl (fun _ _ => sn_ck (s_X1_isFull p0))
/-! X1_prime -/
def f_X1_prime (p0 : (Option Nat)) : Mo Int32 :=
  mBd (mGetI 1 4 p0) (fun r1 => mRt r1)
set_option maxRecDepth 100000 in
theorem s_X1_prime {cx : CX} (p0 : (Option Nat)) : Sn cx m_X1_prime eI 0 [(0, vA p0)] [] (f_X1_prime p0) := by
  refine sn_aload_n (y := m_X1_prime) (pc := 0) dX1_prime_0 rfl ?_
  refine sn_getI (y := m_X1_prime) (pc := 1) ca_1 rfl fk_X1_25 (fun _ _ _ => rfl) dX1_prime_1 (fun r1 => ?_)
  exact sn_ireturn rfl dX1_prime_4
set_option maxRecDepth 100000 in
theorem c_X1_prime (g : Gl) (p0 : (Option Nat)) : Cn g m_X1_prime eI [vA p0] (mCk 1 p0 (f_X1_prime p0)) := cn_of_sn (by decide +kernel) rfl (fun r => ⟨r, rfl⟩) rfl (fun _ _ => sn_ck (s_X1_prime p0))
/-! X1_result -/
def f_X1_result (p0 : (Option Nat)) : Mo Int32 :=
  mBd (mGetI 1 6 p0) (fun r1 => mRt r1)
set_option maxRecDepth 100000 in
theorem s_X1_result {cx : CX} (p0 : (Option Nat)) : Sn cx m_X1_result eI 0 [(0, vA p0)] [] (f_X1_result p0) := by
  refine sn_aload_n (y := m_X1_result) (pc := 0) dX1_result_0 rfl ?_
  refine sn_getI (y := m_X1_result) (pc := 1) ca_1 rfl fk_X1_32 (fun _ _ _ => rfl) dX1_result_1 (fun r1 => ?_)
  exact sn_ireturn rfl dX1_result_4
set_option maxRecDepth 100000 in
theorem c_X1_result (g : Gl) (p0 : (Option Nat)) : Cn g m_X1_result eI [vA p0] (mCk 1 p0 (f_X1_result p0)) := cn_of_sn (by decide +kernel) rfl (fun r => ⟨r, rfl⟩) rfl (fun _ _ => sn_ck (s_X1_result p0))
/-! X1_valueAt -/
def f_X1_valueAt_b12 (x0 : (Option Nat)) (x1 : Int32) (x2 : Int32) (k12 : Int32 → Int32 → Mo Int32) (x3 : Int32) (x4 : Int32) : Mo Int32 :=
  mBd (mGetA 1 1 x0) (fun r3 => mBd (f_X6_cell r3 x1) (fun r4 => (if x4 ≥ r4 then mRt x3 else mBd (mGetI 1 4 x0) (fun r5 => mBd (f_X6_mod ((x3 * x2).toInt64) r5) (fun r6 => k12 r6 (x4 + 1))))))
def f_X1_valueAt_l12 (x0 : (Option Nat)) (x1 : Int32) (x2 : Int32) : Int32 → Int32 → Mo Int32 := lq2 (f_X1_valueAt_b12 x0 x1 x2) fuel
set_option maxRecDepth 100000 in
theorem s_X1_valueAt_b12 {cx : CX} (x0 : (Option Nat)) (x1 : Int32) (x2 : Int32) {k12 : Int32 → Int32 → Mo Int32} (hk12 : ∀ (z3 : Int32) (z4 : Int32), Sn cx m_X1_valueAt eI 12 [(3, vI z3), (4, vI z4), (0, vA x0), (1, vI x1), (2, vI x2)] [] (k12 z3 z4)) (x3 : Int32) (x4 : Int32) : Sn cx m_X1_valueAt eI 12 [(3, vI x3), (4, vI x4), (0, vA x0), (1, vI x1), (2, vI x2)] [] (f_X1_valueAt_b12 x0 x1 x2 k12 x3 x4) := by
  refine sn_iload (y := m_X1_valueAt) (pc := 12) dX1_valueAt_12 rfl ?_
  refine sn_aload_n (y := m_X1_valueAt) (pc := 14) dX1_valueAt_14 rfl ?_
  refine sn_getA (y := m_X1_valueAt) (pc := 15) ca_1 rfl fk_X1_13 (fun _ _ _ => rfl) dX1_valueAt_15 (fun r3 => ?_)
  refine sn_iload_n (y := m_X1_valueAt) (pc := 18) dX1_valueAt_18 rfl ?_
  refine sn_invS (y := m_X1_valueAt) (pc := 19) (av := [vA r3, vI x1]) (st := [vI x4]) dX1_valueAt_19 lk_X1_41 sw_X6_cell rfl rfl rfl ⟨by decide, by decide⟩ (c_X6_cell cx.1 r3 x1) (fun r4 => ?_)
  refine sn_icmp_ge (y := m_X1_valueAt) (pc := 22) (tgt := 43) dX1_valueAt_22 (by decide) (fun _ => ?_) (fun _ => ?_)
  · refine sn_iload_n (y := m_X1_valueAt) (pc := 43) dX1_valueAt_43 rfl ?_
    exact sn_ireturn rfl dX1_valueAt_44
  refine sn_iload_n (y := m_X1_valueAt) (pc := 25) dX1_valueAt_25 rfl ?_
  refine sn_iload_n (y := m_X1_valueAt) (pc := 26) dX1_valueAt_26 rfl ?_
  refine sn_imul (y := m_X1_valueAt) (pc := 27) dX1_valueAt_27 ?_
  refine sn_i2l (y := m_X1_valueAt) (pc := 28) dX1_valueAt_28 ?_
  refine sn_aload_n (y := m_X1_valueAt) (pc := 29) dX1_valueAt_29 rfl ?_
  refine sn_getI (y := m_X1_valueAt) (pc := 30) ca_1 rfl fk_X1_25 (fun _ _ _ => rfl) dX1_valueAt_30 (fun r5 => ?_)
  refine sn_invS (y := m_X1_valueAt) (pc := 33) (av := [vJ ((x3 * x2).toInt64), vI r5]) (st := []) dX1_valueAt_33 lk_X1_45 sw_X6_mod rfl rfl rfl ⟨by decide, by decide⟩ (c_X6_mod cx.1 ((x3 * x2).toInt64) r5) (fun r6 => ?_)
  refine sn_istore_n (y := m_X1_valueAt) (pc := 36) dX1_valueAt_36 rfl ?_
  refine sn_iinc (y := m_X1_valueAt) (pc := 37) (v := x4 + 1) dX1_valueAt_37 rfl (by rfl) rfl ?_
  refine sn_goto (y := m_X1_valueAt) (pc := 40) (tgt := 12) dX1_valueAt_40 (by decide) ?_
  exact sn_sub rfl (hk12 r6 (x4 + 1))
set_option maxRecDepth 100000 in
theorem s_X1_valueAt_l12 {cx : CX} (x0 : (Option Nat)) (x1 : Int32) (x2 : Int32) (x3 : Int32) (x4 : Int32) : Sn cx m_X1_valueAt eI 12 [(3, vI x3), (4, vI x4), (0, vA x0), (1, vI x1), (2, vI x2)] [] (f_X1_valueAt_l12 x0 x1 x2 x3 x4) :=
  sn_lq2 (L := fun x3 x4 => [(3, vI x3), (4, vI x4), (0, vA x0), (1, vI x1), (2, vI x2)]) (fun k hk x3 x4 => s_X1_valueAt_b12 x0 x1 x2 hk x3 x4) fuel x3 x4
def f_X1_valueAt (p0 : (Option Nat)) (p1 : Int32) (p2 : Int32) : Mo Int32 :=
  mBd (mGetA 1 0 p0) (fun r1 => mBd (f_X6_cell r1 p1) (fun r2 => f_X1_valueAt_l12 p0 p1 p2 r2 (0 : Int32)))
set_option maxRecDepth 100000 in
theorem s_X1_valueAt {cx : CX} (p0 : (Option Nat)) (p1 : Int32) (p2 : Int32) : Sn cx m_X1_valueAt eI 0 [(0, vA p0), (1, vI p1), (2, vI p2)] [] (f_X1_valueAt p0 p1 p2) := by
  refine sn_aload_n (y := m_X1_valueAt) (pc := 0) dX1_valueAt_0 rfl ?_
  refine sn_getA (y := m_X1_valueAt) (pc := 1) ca_1 rfl fk_X1_9 (fun _ _ _ => rfl) dX1_valueAt_1 (fun r1 => ?_)
  refine sn_iload_n (y := m_X1_valueAt) (pc := 4) dX1_valueAt_4 rfl ?_
  refine sn_invS (y := m_X1_valueAt) (pc := 5) (av := [vA r1, vI p1]) (st := []) dX1_valueAt_5 lk_X1_41 sw_X6_cell rfl rfl rfl ⟨by decide, by decide⟩ (c_X6_cell cx.1 r1 p1) (fun r2 => ?_)
  refine sn_istore_n (y := m_X1_valueAt) (pc := 8) dX1_valueAt_8 rfl ?_
  refine sn_iconst (y := m_X1_valueAt) (pc := 9) dX1_valueAt_9 kc_iconst_0 ?_
  refine sn_istore (y := m_X1_valueAt) (pc := 10) dX1_valueAt_10 rfl ?_
  exact sn_sub rfl (s_X1_valueAt_l12 p0 p1 p2 r2 (0 : Int32))
set_option maxRecDepth 100000 in
theorem c_X1_valueAt (g : Gl) (p0 : (Option Nat)) (p1 : Int32) (p2 : Int32) : Cn g m_X1_valueAt eI [vA p0, vI p1, vI p2] (mCk 1 p0 (f_X1_valueAt p0 p1 p2)) := cn_of_sn (by decide +kernel) rfl (fun r => ⟨r, rfl⟩) rfl (fun _ _ => sn_ck (s_X1_valueAt p0 p1 p2))
/-! X6_setWhole -/
def f_X6_setWhole_b2 (x0 : (Option Nat)) (x1 : Int64) (k2 : Int32 → Mo Unit) (x3 : Int32) : Mo Unit :=
  (if x0 = none then mRt () else mBd (mLen x0) (fun r1 => (if x3 ≥ r1 then mRt () else (if ¬ x3 = 0 then mBd (mStJ x0 x3 (0 : Int64)) (fun _ => k2 (x3 + 1)) else mBd (mStJ x0 x3 x1) (fun _ => k2 (x3 + 1))))))
def f_X6_setWhole_l2 (x0 : (Option Nat)) (x1 : Int64) : Int32 → Mo Unit := lq1 (f_X6_setWhole_b2 x0 x1) fuel
set_option maxRecDepth 100000 in
theorem s_X6_setWhole_b2 {cx : CX} (x0 : (Option Nat)) (x1 : Int64) {k2 : Int32 → Mo Unit} (hk2 : ∀ (z3 : Int32), Sn cx m_X6_setWhole eV 2 [(3, vI z3), (0, vA x0), (1, vJ x1)] [] (k2 z3)) (x3 : Int32) : Sn cx m_X6_setWhole eV 2 [(3, vI x3), (0, vA x0), (1, vJ x1)] [] (f_X6_setWhole_b2 x0 x1 k2 x3) := by
  refine sn_aload_n (y := m_X6_setWhole) (pc := 2) dX6_setWhole_2 rfl ?_
  refine sn_ifnull (y := m_X6_setWhole) (pc := 3) (tgt := 30) dX6_setWhole_3 (by decide) ?_ ?_
  · exact sn_return rfl dX6_setWhole_30
  refine sn_iload_n (y := m_X6_setWhole) (pc := 6) dX6_setWhole_6 rfl ?_
  refine sn_aload_n (y := m_X6_setWhole) (pc := 7) dX6_setWhole_7 rfl ?_
  refine sn_alen (y := m_X6_setWhole) (pc := 8) dX6_setWhole_8 (fun r1 => ?_)
  refine sn_icmp_ge (y := m_X6_setWhole) (pc := 9) (tgt := 30) dX6_setWhole_9 (by decide) (fun _ => ?_) (fun _ => ?_)
  · exact sn_return rfl dX6_setWhole_30
  refine sn_aload_n (y := m_X6_setWhole) (pc := 12) dX6_setWhole_12 rfl ?_
  refine sn_iload_n (y := m_X6_setWhole) (pc := 13) dX6_setWhole_13 rfl ?_
  refine sn_iload_n (y := m_X6_setWhole) (pc := 14) dX6_setWhole_14 rfl ?_
  refine sn_if_ne (y := m_X6_setWhole) (pc := 15) (tgt := 22) dX6_setWhole_15 (by decide) (fun _ => ?_) (fun _ => ?_)
  · refine sn_lconst (y := m_X6_setWhole) (pc := 22) dX6_setWhole_22 kc_lconst_0 ?_
    refine sn_lastore (y := m_X6_setWhole) (pc := 23) dX6_setWhole_23 ?_
    refine sn_iinc (y := m_X6_setWhole) (pc := 24) (v := x3 + 1) dX6_setWhole_24 rfl (by rfl) rfl ?_
    refine sn_goto (y := m_X6_setWhole) (pc := 27) (tgt := 2) dX6_setWhole_27 (by decide) ?_
    exact sn_sub rfl (hk2 (x3 + 1))
  refine sn_lload_n (y := m_X6_setWhole) (pc := 18) dX6_setWhole_18 rfl ?_
  refine sn_goto (y := m_X6_setWhole) (pc := 19) (tgt := 23) dX6_setWhole_19 (by decide) ?_
  refine sn_lastore (y := m_X6_setWhole) (pc := 23) dX6_setWhole_23 ?_
  refine sn_iinc (y := m_X6_setWhole) (pc := 24) (v := x3 + 1) dX6_setWhole_24 rfl (by rfl) rfl ?_
  refine sn_goto (y := m_X6_setWhole) (pc := 27) (tgt := 2) dX6_setWhole_27 (by decide) ?_
  exact sn_sub rfl (hk2 (x3 + 1))
set_option maxRecDepth 100000 in
theorem s_X6_setWhole_l2 {cx : CX} (x0 : (Option Nat)) (x1 : Int64) (x3 : Int32) : Sn cx m_X6_setWhole eV 2 [(3, vI x3), (0, vA x0), (1, vJ x1)] [] (f_X6_setWhole_l2 x0 x1 x3) :=
  sn_lq1 (L := fun x3 => [(3, vI x3), (0, vA x0), (1, vJ x1)]) (fun k hk x3 => s_X6_setWhole_b2 x0 x1 hk x3) fuel x3
def f_X6_setWhole (p0 : (Option Nat)) (p1 : Int64) : Mo Unit :=
  f_X6_setWhole_l2 p0 p1 (0 : Int32)
set_option maxRecDepth 100000 in
theorem s_X6_setWhole {cx : CX} (p0 : (Option Nat)) (p1 : Int64) : Sn cx m_X6_setWhole eV 0 [(0, vA p0), (1, vJ p1)] [] (f_X6_setWhole p0 p1) := by
  refine sn_iconst (y := m_X6_setWhole) (pc := 0) dX6_setWhole_0 kc_iconst_0 ?_
  refine sn_istore_n (y := m_X6_setWhole) (pc := 1) dX6_setWhole_1 rfl ?_
  exact sn_sub rfl (s_X6_setWhole_l2 p0 p1 (0 : Int32))
set_option maxRecDepth 100000 in
theorem c_X6_setWhole (g : Gl) (p0 : (Option Nat)) (p1 : Int64) : Cn g m_X6_setWhole eV [vA p0, vJ p1] (f_X6_setWhole p0 p1) := cn_of_sn (by decide +kernel) rfl (fun _ => rfl) rfl (fun _ _ => s_X6_setWhole p0 p1)
/-! X6_at -/
def f_X6_at (p0 : (Option Nat)) (p1 : Int32) : Mo Int64 :=
  (if p0 = none then mRt (0 : Int64) else (if p1 < 0 then mRt (0 : Int64) else mBd (mLen p0) (fun r1 => (if p1 ≥ r1 then mRt (0 : Int64) else mBd (mLdJ p0 p1) (fun r2 => mRt r2)))))
set_option maxRecDepth 100000 in
theorem s_X6_at {cx : CX} (p0 : (Option Nat)) (p1 : Int32) : Sn cx m_X6_at eJ 0 [(0, vA p0), (1, vI p1)] [] (f_X6_at p0 p1) := by
  refine sn_aload_n (y := m_X6_at) (pc := 0) dX6_at_0 rfl ?_
  refine sn_ifnull (y := m_X6_at) (pc := 1) (tgt := 20) dX6_at_1 (by decide) ?_ ?_
  · refine sn_lconst (y := m_X6_at) (pc := 20) dX6_at_20 kc_lconst_0 ?_
    exact sn_lreturn rfl dX6_at_21
  refine sn_iload_n (y := m_X6_at) (pc := 4) dX6_at_4 rfl ?_
  refine sn_if_lt (y := m_X6_at) (pc := 5) (tgt := 20) dX6_at_5 (by decide) (fun _ => ?_) (fun _ => ?_)
  · refine sn_lconst (y := m_X6_at) (pc := 20) dX6_at_20 kc_lconst_0 ?_
    exact sn_lreturn rfl dX6_at_21
  refine sn_iload_n (y := m_X6_at) (pc := 8) dX6_at_8 rfl ?_
  refine sn_aload_n (y := m_X6_at) (pc := 9) dX6_at_9 rfl ?_
  refine sn_alen (y := m_X6_at) (pc := 10) dX6_at_10 (fun r1 => ?_)
  refine sn_icmp_ge (y := m_X6_at) (pc := 11) (tgt := 20) dX6_at_11 (by decide) (fun _ => ?_) (fun _ => ?_)
  · refine sn_lconst (y := m_X6_at) (pc := 20) dX6_at_20 kc_lconst_0 ?_
    exact sn_lreturn rfl dX6_at_21
  refine sn_aload_n (y := m_X6_at) (pc := 14) dX6_at_14 rfl ?_
  refine sn_iload_n (y := m_X6_at) (pc := 15) dX6_at_15 rfl ?_
  refine sn_laload (y := m_X6_at) (pc := 16) dX6_at_16 (fun r2 => ?_)
  refine sn_goto (y := m_X6_at) (pc := 17) (tgt := 21) dX6_at_17 (by decide) ?_
  exact sn_lreturn rfl dX6_at_21
set_option maxRecDepth 100000 in
theorem c_X6_at (g : Gl) (p0 : (Option Nat)) (p1 : Int32) : Cn g m_X6_at eJ [vA p0, vI p1] (f_X6_at p0 p1) := cn_of_sn (by decide +kernel) rfl (fun r => ⟨r, rfl⟩) rfl (fun _ _ => s_X6_at p0 p1)
/-! X1_spread -/
def f_X1_spread_b28 (k10 : Int32 → Mo Unit) (x0 : (Option Nat)) (x1 : Int32) (x2 : Int32) (x3 : Int32) (k28 : Int32 → Mo Unit) (x4 : Int32) : Mo Unit :=
  mBd (mGetI 1 4 x0) (fun r6 => (if x4 ≥ r6 then k10 (x2 + 1) else mBd (mGetA 1 2 x0) (fun r7 => mBd (f_X6_at r7 x4) (fun r8 => (if r8 = (0 : Int64) then k28 (x4 + 1) else mBd (mGetI 1 4 x0) (fun r9 => mBd (f_X6_mod ((x4 + x3).toInt64) r9) (fun r10 => mBd (mGetA 1 3 x0) (fun r11 => mBd (mGetA 1 3 x0) (fun r12 => mBd (f_X6_at r12 r10) (fun r13 => mBd (f_X6_put r11 r10 (r13 + r8)) (fun _ => k28 (x4 + 1))))))))))))
def f_X1_spread_l28 (k10 : Int32 → Mo Unit) (x0 : (Option Nat)) (x1 : Int32) (x2 : Int32) (x3 : Int32) : Int32 → Mo Unit := lq1 (f_X1_spread_b28 k10 x0 x1 x2 x3) fuel
set_option maxRecDepth 100000 in
theorem s_X1_spread_b28 {cx : CX} {k10 : Int32 → Mo Unit} (x0 : (Option Nat)) (x1 : Int32) (x2 : Int32) (x3 : Int32) (hk10 : ∀ (z2 : Int32), Sn cx m_X1_spread eV 10 [(2, vI z2), (0, vA x0), (1, vI x1)] [] (k10 z2)) {k28 : Int32 → Mo Unit} (hk28 : ∀ (z4 : Int32), Sn cx m_X1_spread eV 28 [(4, vI z4), (0, vA x0), (1, vI x1), (2, vI x2), (3, vI x3)] [] (k28 z4)) (x4 : Int32) : Sn cx m_X1_spread eV 28 [(4, vI x4), (0, vA x0), (1, vI x1), (2, vI x2), (3, vI x3)] [] (f_X1_spread_b28 k10 x0 x1 x2 x3 k28 x4) := by
  refine sn_iload (y := m_X1_spread) (pc := 28) dX1_spread_28 rfl ?_
  refine sn_aload_n (y := m_X1_spread) (pc := 30) dX1_spread_30 rfl ?_
  refine sn_getI (y := m_X1_spread) (pc := 31) ca_1 rfl fk_X1_25 (fun _ _ _ => rfl) dX1_spread_31 (fun r6 => ?_)
  refine sn_icmp_ge (y := m_X1_spread) (pc := 34) (tgt := 96) dX1_spread_34 (by decide) (fun _ => ?_) (fun _ => ?_)
  · refine sn_iinc (y := m_X1_spread) (pc := 96) (v := x2 + 1) dX1_spread_96 rfl (by rfl) rfl ?_
    refine sn_goto (y := m_X1_spread) (pc := 99) (tgt := 10) dX1_spread_99 (by decide) ?_
    exact sn_sub rfl (hk10 (x2 + 1))
  refine sn_aload_n (y := m_X1_spread) (pc := 37) dX1_spread_37 rfl ?_
  refine sn_getA (y := m_X1_spread) (pc := 38) ca_1 rfl fk_X1_18 (fun _ _ _ => rfl) dX1_spread_38 (fun r7 => ?_)
  refine sn_iload (y := m_X1_spread) (pc := 41) dX1_spread_41 rfl ?_
  refine sn_invS (y := m_X1_spread) (pc := 43) (av := [vA r7, vI x4]) (st := []) dX1_spread_43 lk_X1_61 sw_X6_at rfl rfl rfl ⟨by decide, by decide⟩ (c_X6_at cx.1 r7 x4) (fun r8 => ?_)
  refine sn_lstore (y := m_X1_spread) (pc := 46) dX1_spread_46 rfl ?_
  refine sn_lload (y := m_X1_spread) (pc := 48) dX1_spread_48 rfl ?_
  refine sn_lconst (y := m_X1_spread) (pc := 50) dX1_spread_50 kc_lconst_0 ?_
  refine sn_lc_eq (y := m_X1_spread) (pc := 51) (tgt := 90) dX1_spread_51 dX1_spread_52 (by decide) (fun _ => ?_) (fun _ => ?_)
  · refine sn_iinc (y := m_X1_spread) (pc := 90) (v := x4 + 1) dX1_spread_90 rfl (by rfl) rfl ?_
    refine sn_goto (y := m_X1_spread) (pc := 93) (tgt := 28) dX1_spread_93 (by decide) ?_
    exact sn_sub rfl (hk28 (x4 + 1))
  refine sn_iload (y := m_X1_spread) (pc := 55) dX1_spread_55 rfl ?_
  refine sn_iload_n (y := m_X1_spread) (pc := 57) dX1_spread_57 rfl ?_
  refine sn_iadd (y := m_X1_spread) (pc := 58) dX1_spread_58 ?_
  refine sn_i2l (y := m_X1_spread) (pc := 59) dX1_spread_59 ?_
  refine sn_aload_n (y := m_X1_spread) (pc := 60) dX1_spread_60 rfl ?_
  refine sn_getI (y := m_X1_spread) (pc := 61) ca_1 rfl fk_X1_25 (fun _ _ _ => rfl) dX1_spread_61 (fun r9 => ?_)
  refine sn_invS (y := m_X1_spread) (pc := 64) (av := [vJ ((x4 + x3).toInt64), vI r9]) (st := []) dX1_spread_64 lk_X1_45 sw_X6_mod rfl rfl rfl ⟨by decide, by decide⟩ (c_X6_mod cx.1 ((x4 + x3).toInt64) r9) (fun r10 => ?_)
  refine sn_istore (y := m_X1_spread) (pc := 67) dX1_spread_67 rfl ?_
  refine sn_aload_n (y := m_X1_spread) (pc := 69) dX1_spread_69 rfl ?_
  refine sn_getA (y := m_X1_spread) (pc := 70) ca_1 rfl fk_X1_22 (fun _ _ _ => rfl) dX1_spread_70 (fun r11 => ?_)
  refine sn_iload (y := m_X1_spread) (pc := 73) dX1_spread_73 rfl ?_
  refine sn_aload_n (y := m_X1_spread) (pc := 75) dX1_spread_75 rfl ?_
  refine sn_getA (y := m_X1_spread) (pc := 76) ca_1 rfl fk_X1_22 (fun _ _ _ => rfl) dX1_spread_76 (fun r12 => ?_)
  refine sn_iload (y := m_X1_spread) (pc := 79) dX1_spread_79 rfl ?_
  refine sn_invS (y := m_X1_spread) (pc := 81) (av := [vA r12, vI r10]) (st := [vI r10, vA r11]) dX1_spread_81 lk_X1_61 sw_X6_at rfl rfl rfl ⟨by decide, by decide⟩ (c_X6_at cx.1 r12 r10) (fun r13 => ?_)
  refine sn_lload (y := m_X1_spread) (pc := 84) dX1_spread_84 rfl ?_
  refine sn_ladd (y := m_X1_spread) (pc := 86) dX1_spread_86 ?_
  refine sn_invS (y := m_X1_spread) (pc := 87) (av := [vA r11, vI r10, vJ (r13 + r8)]) (st := []) dX1_spread_87 lk_X1_65 sw_X6_put rfl rfl rfl ⟨by decide, by decide⟩ (c_X6_put cx.1 r11 r10 (r13 + r8)) (fun _ => ?_)
  refine sn_iinc (y := m_X1_spread) (pc := 90) (v := x4 + 1) dX1_spread_90 rfl (by rfl) rfl ?_
  refine sn_goto (y := m_X1_spread) (pc := 93) (tgt := 28) dX1_spread_93 (by decide) ?_
  exact sn_sub rfl (hk28 (x4 + 1))
set_option maxRecDepth 100000 in
theorem s_X1_spread_l28 {cx : CX} {k10 : Int32 → Mo Unit} (x0 : (Option Nat)) (x1 : Int32) (x2 : Int32) (x3 : Int32) (hk10 : ∀ (z2 : Int32), Sn cx m_X1_spread eV 10 [(2, vI z2), (0, vA x0), (1, vI x1)] [] (k10 z2)) (x4 : Int32) : Sn cx m_X1_spread eV 28 [(4, vI x4), (0, vA x0), (1, vI x1), (2, vI x2), (3, vI x3)] [] (f_X1_spread_l28 k10 x0 x1 x2 x3 x4) :=
  sn_lq1 (L := fun x4 => [(4, vI x4), (0, vA x0), (1, vI x1), (2, vI x2), (3, vI x3)]) (fun k hk x4 => s_X1_spread_b28 x0 x1 x2 x3 hk10 hk x4) fuel x4
def f_X1_spread_b10 (x0 : (Option Nat)) (x1 : Int32) (k10 : Int32 → Mo Unit) (x2 : Int32) : Mo Unit :=
  mBd (mGetI 1 4 x0) (fun r2 => (if x2 ≥ r2 then mBd (mGetA 1 3 x0) (fun r3 => mBd (mGetA 1 2 x0) (fun r4 => mBd (f_X6_copy r3 r4) (fun _ => mRt ()))) else mBd (mCk 1 x0 (f_X1_valueAt x0 x1 x2)) (fun r5 => f_X1_spread_l28 k10 x0 x1 x2 r5 (0 : Int32))))
def f_X1_spread_l10 (x0 : (Option Nat)) (x1 : Int32) : Int32 → Mo Unit := lq1 (f_X1_spread_b10 x0 x1) fuel
set_option maxRecDepth 100000 in
theorem s_X1_spread_b10 {cx : CX} (x0 : (Option Nat)) (x1 : Int32) {k10 : Int32 → Mo Unit} (hk10 : ∀ (z2 : Int32), Sn cx m_X1_spread eV 10 [(2, vI z2), (0, vA x0), (1, vI x1)] [] (k10 z2)) (x2 : Int32) : Sn cx m_X1_spread eV 10 [(2, vI x2), (0, vA x0), (1, vI x1)] [] (f_X1_spread_b10 x0 x1 k10 x2) := by
  refine sn_iload_n (y := m_X1_spread) (pc := 10) dX1_spread_10 rfl ?_
  refine sn_aload_n (y := m_X1_spread) (pc := 11) dX1_spread_11 rfl ?_
  refine sn_getI (y := m_X1_spread) (pc := 12) ca_1 rfl fk_X1_25 (fun _ _ _ => rfl) dX1_spread_12 (fun r2 => ?_)
  refine sn_icmp_ge (y := m_X1_spread) (pc := 15) (tgt := 102) dX1_spread_15 (by decide) (fun _ => ?_) (fun _ => ?_)
  · refine sn_aload_n (y := m_X1_spread) (pc := 102) dX1_spread_102 rfl ?_
    refine sn_getA (y := m_X1_spread) (pc := 103) ca_1 rfl fk_X1_22 (fun _ _ _ => rfl) dX1_spread_103 (fun r3 => ?_)
    refine sn_aload_n (y := m_X1_spread) (pc := 106) dX1_spread_106 rfl ?_
    refine sn_getA (y := m_X1_spread) (pc := 107) ca_1 rfl fk_X1_18 (fun _ _ _ => rfl) dX1_spread_107 (fun r4 => ?_)
    refine sn_invS (y := m_X1_spread) (pc := 110) (av := [vA r3, vA r4]) (st := []) dX1_spread_110 lk_X1_69 sw_X6_copy rfl rfl rfl ⟨by decide, by decide⟩ (c_X6_copy cx.1 r3 r4) (fun _ => ?_)
    exact sn_return rfl dX1_spread_113
  refine sn_aload_n (y := m_X1_spread) (pc := 18) dX1_spread_18 rfl ?_
  refine sn_iload_n (y := m_X1_spread) (pc := 19) dX1_spread_19 rfl ?_
  refine sn_iload_n (y := m_X1_spread) (pc := 20) dX1_spread_20 rfl ?_
  refine sn_invV (y := m_X1_spread) (pc := 21) ca_1 (av := [vI x1, vI x2]) (o := x0) (st := []) dX1_spread_21 lk_X1_57 im_X1_valueAt se_X1_valueAt rfl rfl rfl rfl ⟨by decide, by decide⟩ (c_X1_valueAt cx.1 x0 x1 x2) (fun r5 => ?_)
  refine sn_istore_n (y := m_X1_spread) (pc := 24) dX1_spread_24 rfl ?_
  refine sn_iconst (y := m_X1_spread) (pc := 25) dX1_spread_25 kc_iconst_0 ?_
  refine sn_istore (y := m_X1_spread) (pc := 26) dX1_spread_26 rfl ?_
  exact sn_sub rfl (s_X1_spread_l28 x0 x1 x2 r5 hk10 (0 : Int32))
set_option maxRecDepth 100000 in
theorem s_X1_spread_l10 {cx : CX} (x0 : (Option Nat)) (x1 : Int32) (x2 : Int32) : Sn cx m_X1_spread eV 10 [(2, vI x2), (0, vA x0), (1, vI x1)] [] (f_X1_spread_l10 x0 x1 x2) :=
  sn_lq1 (L := fun x2 => [(2, vI x2), (0, vA x0), (1, vI x1)]) (fun k hk x2 => s_X1_spread_b10 x0 x1 hk x2) fuel x2
def f_X1_spread (p0 : (Option Nat)) (p1 : Int32) : Mo Unit :=
  mBd (mGetA 1 3 p0) (fun r1 => mBd (f_X6_setWhole r1 (0 : Int64)) (fun _ => f_X1_spread_l10 p0 p1 (0 : Int32)))
set_option maxRecDepth 100000 in
theorem s_X1_spread {cx : CX} (p0 : (Option Nat)) (p1 : Int32) : Sn cx m_X1_spread eV 0 [(0, vA p0), (1, vI p1)] [] (f_X1_spread p0 p1) := by
  refine sn_aload_n (y := m_X1_spread) (pc := 0) dX1_spread_0 rfl ?_
  refine sn_getA (y := m_X1_spread) (pc := 1) ca_1 rfl fk_X1_22 (fun _ _ _ => rfl) dX1_spread_1 (fun r1 => ?_)
  refine sn_lconst (y := m_X1_spread) (pc := 4) dX1_spread_4 kc_lconst_0 ?_
  refine sn_invS (y := m_X1_spread) (pc := 5) (av := [vA r1, vJ (0 : Int64)]) (st := []) dX1_spread_5 lk_X1_49 sw_X6_setWhole rfl rfl rfl ⟨by decide, by decide⟩ (c_X6_setWhole cx.1 r1 (0 : Int64)) (fun _ => ?_)
  refine sn_iconst (y := m_X1_spread) (pc := 8) dX1_spread_8 kc_iconst_0 ?_
  refine sn_istore_n (y := m_X1_spread) (pc := 9) dX1_spread_9 rfl ?_
  exact sn_sub rfl (s_X1_spread_l10 p0 p1 (0 : Int32))
set_option maxRecDepth 100000 in
theorem c_X1_spread (g : Gl) (p0 : (Option Nat)) (p1 : Int32) : Cn g m_X1_spread eV [vA p0, vI p1] (mCk 1 p0 (f_X1_spread p0 p1)) := cn_of_sn (by decide +kernel) rfl (fun _ => rfl) rfl (fun _ _ => sn_ck (s_X1_spread p0 p1))
/-! X1_ways -/
def f_X1_ways_b36 (x0 : (Option Nat)) (x1 : Int32) (k36 : Int64 → Int32 → Mo Int32) (x2 : Int64) (x4 : Int32) : Mo Int32 :=
  mBd (mGetI 1 4 x0) (fun r3 => (if x4 ≥ r3 then mRt (x2.toInt32) else mBd (mGetA 1 2 x0) (fun r4 => mBd (mGetI 1 5 x0) (fun r5 => mBd (mCk 1 x0 (f_X1_valueAt x0 (r5 - (1 : Int32)) x4)) (fun r6 => mBd (mGetI 1 4 x0) (fun r7 => mBd (f_X6_mod ((x1 - r6).toInt64) r7) (fun r8 => mBd (f_X6_at r4 r8) (fun r9 => mNm (x2 + r9) (fun n10 => k36 n10 (x4 + 1))))))))))
def f_X1_ways_l36 (x0 : (Option Nat)) (x1 : Int32) : Int64 → Int32 → Mo Int32 := lq2 (f_X1_ways_b36 x0 x1) fuel
set_option maxRecDepth 100000 in
theorem s_X1_ways_b36 {cx : CX} (x0 : (Option Nat)) (x1 : Int32) {k36 : Int64 → Int32 → Mo Int32} (hk36 : ∀ (z2 : Int64) (z4 : Int32), Sn cx m_X1_ways eI 36 [(2, vJ z2), (4, vI z4), (0, vA x0), (1, vI x1)] [] (k36 z2 z4)) (x2 : Int64) (x4 : Int32) : Sn cx m_X1_ways eI 36 [(2, vJ x2), (4, vI x4), (0, vA x0), (1, vI x1)] [] (f_X1_ways_b36 x0 x1 k36 x2 x4) := by
  refine sn_iload (y := m_X1_ways) (pc := 36) dX1_ways_36 rfl ?_
  refine sn_aload_n (y := m_X1_ways) (pc := 38) dX1_ways_38 rfl ?_
  refine sn_getI (y := m_X1_ways) (pc := 39) ca_1 rfl fk_X1_25 (fun _ _ _ => rfl) dX1_ways_39 (fun r3 => ?_)
  refine sn_icmp_ge (y := m_X1_ways) (pc := 42) (tgt := 83) dX1_ways_42 (by decide) (fun _ => ?_) (fun _ => ?_)
  · refine sn_lload_n (y := m_X1_ways) (pc := 83) dX1_ways_83 rfl ?_
    refine sn_l2i (y := m_X1_ways) (pc := 84) dX1_ways_84 ?_
    exact sn_ireturn rfl dX1_ways_85
  refine sn_lload_n (y := m_X1_ways) (pc := 45) dX1_ways_45 rfl ?_
  refine sn_aload_n (y := m_X1_ways) (pc := 46) dX1_ways_46 rfl ?_
  refine sn_getA (y := m_X1_ways) (pc := 47) ca_1 rfl fk_X1_18 (fun _ _ _ => rfl) dX1_ways_47 (fun r4 => ?_)
  refine sn_iload_n (y := m_X1_ways) (pc := 50) dX1_ways_50 rfl ?_
  refine sn_aload_n (y := m_X1_ways) (pc := 51) dX1_ways_51 rfl ?_
  refine sn_aload_n (y := m_X1_ways) (pc := 52) dX1_ways_52 rfl ?_
  refine sn_getI (y := m_X1_ways) (pc := 53) ca_1 rfl fk_X1_29 (fun _ _ _ => rfl) dX1_ways_53 (fun r5 => ?_)
  refine sn_iconst (y := m_X1_ways) (pc := 56) dX1_ways_56 kc_iconst_1 ?_
  refine sn_isub (y := m_X1_ways) (pc := 57) dX1_ways_57 ?_
  refine sn_iload (y := m_X1_ways) (pc := 58) dX1_ways_58 rfl ?_
  refine sn_invV (y := m_X1_ways) (pc := 60) ca_1 (av := [vI (r5 - (1 : Int32)), vI x4]) (o := x0) (st := [vI x1, vA r4, vJ x2]) dX1_ways_60 lk_X1_57 im_X1_valueAt se_X1_valueAt rfl rfl rfl rfl ⟨by decide, by decide⟩ (c_X1_valueAt cx.1 x0 (r5 - (1 : Int32)) x4) (fun r6 => ?_)
  refine sn_isub (y := m_X1_ways) (pc := 63) dX1_ways_63 ?_
  refine sn_i2l (y := m_X1_ways) (pc := 64) dX1_ways_64 ?_
  refine sn_aload_n (y := m_X1_ways) (pc := 65) dX1_ways_65 rfl ?_
  refine sn_getI (y := m_X1_ways) (pc := 66) ca_1 rfl fk_X1_25 (fun _ _ _ => rfl) dX1_ways_66 (fun r7 => ?_)
  refine sn_invS (y := m_X1_ways) (pc := 69) (av := [vJ ((x1 - r6).toInt64), vI r7]) (st := [vA r4, vJ x2]) dX1_ways_69 lk_X1_45 sw_X6_mod rfl rfl rfl ⟨by decide, by decide⟩ (c_X6_mod cx.1 ((x1 - r6).toInt64) r7) (fun r8 => ?_)
  refine sn_invS (y := m_X1_ways) (pc := 72) (av := [vA r4, vI r8]) (st := [vJ x2]) dX1_ways_72 lk_X1_61 sw_X6_at rfl rfl rfl ⟨by decide, by decide⟩ (c_X6_at cx.1 r4 r8) (fun r9 => ?_)
  refine sn_ladd (y := m_X1_ways) (pc := 75) dX1_ways_75 ?_
  refine sn_lstore_nM (y := m_X1_ways) (pc := 76) dX1_ways_76 rfl (fun n10 => ?_)
  refine sn_iinc (y := m_X1_ways) (pc := 77) (v := x4 + 1) dX1_ways_77 rfl (by rfl) rfl ?_
  refine sn_goto (y := m_X1_ways) (pc := 80) (tgt := 36) dX1_ways_80 (by decide) ?_
  exact sn_sub rfl (hk36 n10 (x4 + 1))
set_option maxRecDepth 100000 in
theorem s_X1_ways_l36 {cx : CX} (x0 : (Option Nat)) (x1 : Int32) (x2 : Int64) (x4 : Int32) : Sn cx m_X1_ways eI 36 [(2, vJ x2), (4, vI x4), (0, vA x0), (1, vI x1)] [] (f_X1_ways_l36 x0 x1 x2 x4) :=
  sn_lq2 (L := fun x2 x4 => [(2, vJ x2), (4, vI x4), (0, vA x0), (1, vI x1)]) (fun k hk x2 x4 => s_X1_ways_b36 x0 x1 hk x2 x4) fuel x2 x4
def f_X1_ways_b10 (x0 : (Option Nat)) (x1 : Int32) (k10 : Int32 → Mo Int32) (x2 : Int32) : Mo Int32 :=
  mBd (mGetI 1 5 x0) (fun r2 => (if (x2 + (1 : Int32)) ≥ r2 then f_X1_ways_l36 x0 x1 (0 : Int64) (0 : Int32) else mBd (mCk 1 x0 (f_X1_spread x0 x2)) (fun _ => k10 (x2 + 1))))
def f_X1_ways_l10 (x0 : (Option Nat)) (x1 : Int32) : Int32 → Mo Int32 := lq1 (f_X1_ways_b10 x0 x1) fuel
set_option maxRecDepth 100000 in
theorem s_X1_ways_b10 {cx : CX} (x0 : (Option Nat)) (x1 : Int32) {k10 : Int32 → Mo Int32} (hk10 : ∀ (z2 : Int32), Sn cx m_X1_ways eI 10 [(2, vI z2), (0, vA x0), (1, vI x1)] [] (k10 z2)) (x2 : Int32) : Sn cx m_X1_ways eI 10 [(2, vI x2), (0, vA x0), (1, vI x1)] [] (f_X1_ways_b10 x0 x1 k10 x2) := by
  refine sn_iload_n (y := m_X1_ways) (pc := 10) dX1_ways_10 rfl ?_
  refine sn_iconst (y := m_X1_ways) (pc := 11) dX1_ways_11 kc_iconst_1 ?_
  refine sn_iadd (y := m_X1_ways) (pc := 12) dX1_ways_12 ?_
  refine sn_aload_n (y := m_X1_ways) (pc := 13) dX1_ways_13 rfl ?_
  refine sn_getI (y := m_X1_ways) (pc := 14) ca_1 rfl fk_X1_29 (fun _ _ _ => rfl) dX1_ways_14 (fun r2 => ?_)
  refine sn_icmp_ge (y := m_X1_ways) (pc := 17) (tgt := 31) dX1_ways_17 (by decide) (fun _ => ?_) (fun _ => ?_)
  · refine sn_lconst (y := m_X1_ways) (pc := 31) dX1_ways_31 kc_lconst_0 ?_
    refine sn_lstore_n (y := m_X1_ways) (pc := 32) dX1_ways_32 rfl ?_
    refine sn_iconst (y := m_X1_ways) (pc := 33) dX1_ways_33 kc_iconst_0 ?_
    refine sn_istore (y := m_X1_ways) (pc := 34) dX1_ways_34 rfl ?_
    exact sn_sub rfl (s_X1_ways_l36 x0 x1 (0 : Int64) (0 : Int32))
  refine sn_aload_n (y := m_X1_ways) (pc := 20) dX1_ways_20 rfl ?_
  refine sn_iload_n (y := m_X1_ways) (pc := 21) dX1_ways_21 rfl ?_
  refine sn_invV (y := m_X1_ways) (pc := 22) ca_1 (av := [vI x2]) (o := x0) (st := []) dX1_ways_22 lk_X1_53 im_X1_spread se_X1_spread rfl rfl rfl rfl ⟨by decide, by decide⟩ (c_X1_spread cx.1 x0 x2) (fun _ => ?_)
  refine sn_iinc (y := m_X1_ways) (pc := 25) (v := x2 + 1) dX1_ways_25 rfl (by rfl) rfl ?_
  refine sn_goto (y := m_X1_ways) (pc := 28) (tgt := 10) dX1_ways_28 (by decide) ?_
  exact sn_sub rfl (hk10 (x2 + 1))
set_option maxRecDepth 100000 in
theorem s_X1_ways_l10 {cx : CX} (x0 : (Option Nat)) (x1 : Int32) (x2 : Int32) : Sn cx m_X1_ways eI 10 [(2, vI x2), (0, vA x0), (1, vI x1)] [] (f_X1_ways_l10 x0 x1 x2) :=
  sn_lq1 (L := fun x2 => [(2, vI x2), (0, vA x0), (1, vI x1)]) (fun k hk x2 => s_X1_ways_b10 x0 x1 hk x2) fuel x2
def f_X1_ways (p0 : (Option Nat)) (p1 : Int32) : Mo Int32 :=
  mBd (mGetA 1 2 p0) (fun r1 => mBd (f_X6_setWhole r1 (1 : Int64)) (fun _ => f_X1_ways_l10 p0 p1 (0 : Int32)))
set_option maxRecDepth 100000 in
theorem s_X1_ways {cx : CX} (p0 : (Option Nat)) (p1 : Int32) : Sn cx m_X1_ways eI 0 [(0, vA p0), (1, vI p1)] [] (f_X1_ways p0 p1) := by
  refine sn_aload_n (y := m_X1_ways) (pc := 0) dX1_ways_0 rfl ?_
  refine sn_getA (y := m_X1_ways) (pc := 1) ca_1 rfl fk_X1_18 (fun _ _ _ => rfl) dX1_ways_1 (fun r1 => ?_)
  refine sn_lconst (y := m_X1_ways) (pc := 4) dX1_ways_4 kc_lconst_1 ?_
  refine sn_invS (y := m_X1_ways) (pc := 5) (av := [vA r1, vJ (1 : Int64)]) (st := []) dX1_ways_5 lk_X1_49 sw_X6_setWhole rfl rfl rfl ⟨by decide, by decide⟩ (c_X6_setWhole cx.1 r1 (1 : Int64)) (fun _ => ?_)
  refine sn_iconst (y := m_X1_ways) (pc := 8) dX1_ways_8 kc_iconst_0 ?_
  refine sn_istore_n (y := m_X1_ways) (pc := 9) dX1_ways_9 rfl ?_
  exact sn_sub rfl (s_X1_ways_l10 p0 p1 (0 : Int32))
set_option maxRecDepth 100000 in
theorem c_X1_ways (g : Gl) (p0 : (Option Nat)) (p1 : Int32) : Cn g m_X1_ways eI [vA p0, vI p1] (mCk 1 p0 (f_X1_ways p0 p1)) := cn_of_sn (by decide +kernel) rfl (fun r => ⟨r, rfl⟩) rfl (fun _ _ => sn_ck (s_X1_ways p0 p1))
/-! X2_prime -/
def f_X2_prime (p0 : (Option Nat)) : Mo Int32 :=
  mBd (mGetI 2 3 p0) (fun r1 => mRt r1)
set_option maxRecDepth 100000 in
theorem s_X2_prime {cx : CX} (p0 : (Option Nat)) : Sn cx m_X2_prime eI 0 [(0, vA p0)] [] (f_X2_prime p0) := by
  refine sn_aload_n (y := m_X2_prime) (pc := 0) dX2_prime_0 rfl ?_
  refine sn_getI (y := m_X2_prime) (pc := 1) ca_2 rfl fk_X2_21 (fun _ _ _ => rfl) dX2_prime_1 (fun r1 => ?_)
  exact sn_ireturn rfl dX2_prime_4
set_option maxRecDepth 100000 in
theorem c_X2_prime (g : Gl) (p0 : (Option Nat)) : Cn g m_X2_prime eI [vA p0] (mCk 2 p0 (f_X2_prime p0)) := cn_of_sn (by decide +kernel) rfl (fun r => ⟨r, rfl⟩) rfl (fun _ _ => sn_ck (s_X2_prime p0))
/-! X2_order -/
def f_X2_order (p0 : (Option Nat)) : Mo Int32 :=
  mBd (mGetI 2 4 p0) (fun r1 => mRt r1)
set_option maxRecDepth 100000 in
theorem s_X2_order {cx : CX} (p0 : (Option Nat)) : Sn cx m_X2_order eI 0 [(0, vA p0)] [] (f_X2_order p0) := by
  refine sn_aload_n (y := m_X2_order) (pc := 0) dX2_order_0 rfl ?_
  refine sn_getI (y := m_X2_order) (pc := 1) ca_2 rfl fk_X2_25 (fun _ _ _ => rfl) dX2_order_1 (fun r1 => ?_)
  exact sn_ireturn rfl dX2_order_4
set_option maxRecDepth 100000 in
theorem c_X2_order (g : Gl) (p0 : (Option Nat)) : Cn g m_X2_order eI [vA p0] (mCk 2 p0 (f_X2_order p0)) := cn_of_sn (by decide +kernel) rfl (fun r => ⟨r, rfl⟩) rfl (fun _ _ => sn_ck (s_X2_order p0))
/-! X2_root -/
def f_X2_root (p0 : (Option Nat)) : Mo Int32 :=
  mBd (mGetA 2 1 p0) (fun r1 => mBd (f_X6_cell r1 (1 : Int32)) (fun r2 => mRt r2))
set_option maxRecDepth 100000 in
theorem s_X2_root {cx : CX} (p0 : (Option Nat)) : Sn cx m_X2_root eI 0 [(0, vA p0)] [] (f_X2_root p0) := by
  refine sn_aload_n (y := m_X2_root) (pc := 0) dX2_root_0 rfl ?_
  refine sn_getA (y := m_X2_root) (pc := 1) ca_2 rfl fk_X2_15 (fun _ _ _ => rfl) dX2_root_1 (fun r1 => ?_)
  refine sn_iconst (y := m_X2_root) (pc := 4) dX2_root_4 kc_iconst_1 ?_
  refine sn_invS (y := m_X2_root) (pc := 5) (av := [vA r1, vI (1 : Int32)]) (st := []) dX2_root_5 lk_X2_42 sw_X6_cell rfl rfl rfl ⟨by decide, by decide⟩ (c_X6_cell cx.1 r1 (1 : Int32)) (fun r2 => ?_)
  exact sn_ireturn rfl dX2_root_8
set_option maxRecDepth 100000 in
theorem c_X2_root (g : Gl) (p0 : (Option Nat)) : Cn g m_X2_root eI [vA p0] (mCk 2 p0 (f_X2_root p0)) := cn_of_sn (by decide +kernel) rfl (fun r => ⟨r, rfl⟩) rfl (fun _ _ => sn_ck (s_X2_root p0))
/-! X5_lengthOf -/
def f_X5_lengthOf (p0 : Int32) : Mo Int32 :=
  (if p0 < 0 then mRt (0 : Int32) else mBd (mLen ((some 0))) (fun r1 => (if p0 ≥ r1 then mRt (0 : Int32) else mBd (mLdI 1 ((some 0)) p0) (fun r2 => mRt r2))))
set_option maxRecDepth 100000 in
theorem s_X5_lengthOf {cx : CX} (p0 : Int32) : Sn cx m_X5_lengthOf eI 0 [(0, vI p0)] [] (f_X5_lengthOf p0) := by
  refine sn_iload_n (y := m_X5_lengthOf) (pc := 0) dX5_lengthOf_0 rfl ?_
  refine sn_if_lt (y := m_X5_lengthOf) (pc := 1) (tgt := 20) dX5_lengthOf_1 (by decide) (fun _ => ?_) (fun _ => ?_)
  · refine sn_iconst (y := m_X5_lengthOf) (pc := 20) dX5_lengthOf_20 kc_iconst_0 ?_
    exact sn_ireturn rfl dX5_lengthOf_21
  refine sn_iload_n (y := m_X5_lengthOf) (pc := 4) dX5_lengthOf_4 rfl ?_
  refine sn_lengths (y := m_X5_lengthOf) (pc := 5) gs_X5_15 dX5_lengthOf_5 ?_
  refine sn_alen (y := m_X5_lengthOf) (pc := 8) dX5_lengthOf_8 (fun r1 => ?_)
  refine sn_icmp_ge (y := m_X5_lengthOf) (pc := 9) (tgt := 20) dX5_lengthOf_9 (by decide) (fun _ => ?_) (fun _ => ?_)
  · refine sn_iconst (y := m_X5_lengthOf) (pc := 20) dX5_lengthOf_20 kc_iconst_0 ?_
    exact sn_ireturn rfl dX5_lengthOf_21
  refine sn_lengths (y := m_X5_lengthOf) (pc := 12) gs_X5_15 dX5_lengthOf_12 ?_
  refine sn_iload_n (y := m_X5_lengthOf) (pc := 15) dX5_lengthOf_15 rfl ?_
  refine sn_iaload (y := m_X5_lengthOf) (pc := 16) dX5_lengthOf_16 (fun r2 => ?_)
  refine sn_goto (y := m_X5_lengthOf) (pc := 17) (tgt := 21) dX5_lengthOf_17 (by decide) ?_
  exact sn_ireturn rfl dX5_lengthOf_21
set_option maxRecDepth 100000 in
theorem c_X5_lengthOf (g : Gl) (p0 : Int32) : Cn g m_X5_lengthOf eI [vI p0] (f_X5_lengthOf p0) := cn_of_sn (by decide +kernel) rfl (fun r => ⟨r, rfl⟩) rfl (fun _ _ => s_X5_lengthOf p0)
/-! X2_rowLength -/
def f_X2_rowLength (p0 : (Option Nat)) : Mo Int32 :=
  mBd (mGetI 2 4 p0) (fun r1 => mBd (f_X5_lengthOf r1) (fun r2 => mRt r2))
set_option maxRecDepth 100000 in
theorem s_X2_rowLength {cx : CX} (p0 : (Option Nat)) : Sn cx m_X2_rowLength eI 0 [(0, vA p0)] [] (f_X2_rowLength p0) := by
  refine sn_aload_n (y := m_X2_rowLength) (pc := 0) dX2_rowLength_0 rfl ?_
  refine sn_getI (y := m_X2_rowLength) (pc := 1) ca_2 rfl fk_X2_25 (fun _ _ _ => rfl) dX2_rowLength_1 (fun r1 => ?_)
  refine sn_invS (y := m_X2_rowLength) (pc := 4) (av := [vI r1]) (st := []) dX2_rowLength_4 lk_X2_46 sw_X5_lengthOf rfl rfl rfl ⟨by decide, by decide⟩ (c_X5_lengthOf cx.1 r1) (fun r2 => ?_)
  exact sn_ireturn rfl dX2_rowLength_7
set_option maxRecDepth 100000 in
theorem c_X2_rowLength (g : Gl) (p0 : (Option Nat)) : Cn g m_X2_rowLength eI [vA p0] (mCk 2 p0 (f_X2_rowLength p0)) := cn_of_sn (by decide +kernel) rfl (fun r => ⟨r, rfl⟩) rfl (fun _ _ => sn_ck (s_X2_rowLength p0))
/-! X2_hasUnit -/
def f_X2_hasUnit (p0 : (Option Nat)) (p1 : Int32) : Mo Int32 :=
  (if p1 ≤ 0 then mRt (0 : Int32) else mBd (mGetI 2 3 p0) (fun r1 => (if p1 ≥ r1 then mRt (0 : Int32) else mRt (1 : Int32))))
set_option maxRecDepth 100000 in
theorem s_X2_hasUnit {cx : CX} (p0 : (Option Nat)) (p1 : Int32) : Sn cx m_X2_hasUnit eI 0 [(0, vA p0), (1, vI p1)] [] (f_X2_hasUnit p0 p1) := by
  refine sn_iload_n (y := m_X2_hasUnit) (pc := 0) dX2_hasUnit_0 rfl ?_
  refine sn_if_le (y := m_X2_hasUnit) (pc := 1) (tgt := 16) dX2_hasUnit_1 (by decide) (fun _ => ?_) (fun _ => ?_)
  · refine sn_iconst (y := m_X2_hasUnit) (pc := 16) dX2_hasUnit_16 kc_iconst_0 ?_
    exact sn_zreturnC (by decide) rfl dX2_hasUnit_17
  refine sn_iload_n (y := m_X2_hasUnit) (pc := 4) dX2_hasUnit_4 rfl ?_
  refine sn_aload_n (y := m_X2_hasUnit) (pc := 5) dX2_hasUnit_5 rfl ?_
  refine sn_getI (y := m_X2_hasUnit) (pc := 6) ca_2 rfl fk_X2_21 (fun _ _ _ => rfl) dX2_hasUnit_6 (fun r1 => ?_)
  refine sn_icmp_ge (y := m_X2_hasUnit) (pc := 9) (tgt := 16) dX2_hasUnit_9 (by decide) (fun _ => ?_) (fun _ => ?_)
  · refine sn_iconst (y := m_X2_hasUnit) (pc := 16) dX2_hasUnit_16 kc_iconst_0 ?_
    exact sn_zreturnC (by decide) rfl dX2_hasUnit_17
  refine sn_iconst (y := m_X2_hasUnit) (pc := 12) dX2_hasUnit_12 kc_iconst_1 ?_
  refine sn_goto (y := m_X2_hasUnit) (pc := 13) (tgt := 17) dX2_hasUnit_13 (by decide) ?_
  exact sn_zreturnC (by decide) rfl dX2_hasUnit_17
set_option maxRecDepth 100000 in
theorem c_X2_hasUnit (g : Gl) (p0 : (Option Nat)) (p1 : Int32) : Cn g m_X2_hasUnit eI [vA p0, vI p1] (mCk 2 p0 (f_X2_hasUnit p0 p1)) := cn_of_sn (by decide +kernel) rfl (fun r => ⟨r, rfl⟩) rfl (fun _ _ => sn_ck (s_X2_hasUnit p0 p1))
/-! X2_hasNumber -/
def f_X2_hasNumber (p0 : (Option Nat)) (p1 : Int32) : Mo Int32 :=
  (if p1 < 0 then mRt (0 : Int32) else mBd (mGetI 2 3 p0) (fun r1 => (if p1 ≥ r1 then mRt (0 : Int32) else mRt (1 : Int32))))
set_option maxRecDepth 100000 in
theorem s_X2_hasNumber {cx : CX} (p0 : (Option Nat)) (p1 : Int32) : Sn cx m_X2_hasNumber eI 0 [(0, vA p0), (1, vI p1)] [] (f_X2_hasNumber p0 p1) := by
  refine sn_iload_n (y := m_X2_hasNumber) (pc := 0) dX2_hasNumber_0 rfl ?_
  refine sn_if_lt (y := m_X2_hasNumber) (pc := 1) (tgt := 16) dX2_hasNumber_1 (by decide) (fun _ => ?_) (fun _ => ?_)
  · refine sn_iconst (y := m_X2_hasNumber) (pc := 16) dX2_hasNumber_16 kc_iconst_0 ?_
    exact sn_zreturnC (by decide) rfl dX2_hasNumber_17
  refine sn_iload_n (y := m_X2_hasNumber) (pc := 4) dX2_hasNumber_4 rfl ?_
  refine sn_aload_n (y := m_X2_hasNumber) (pc := 5) dX2_hasNumber_5 rfl ?_
  refine sn_getI (y := m_X2_hasNumber) (pc := 6) ca_2 rfl fk_X2_21 (fun _ _ _ => rfl) dX2_hasNumber_6 (fun r1 => ?_)
  refine sn_icmp_ge (y := m_X2_hasNumber) (pc := 9) (tgt := 16) dX2_hasNumber_9 (by decide) (fun _ => ?_) (fun _ => ?_)
  · refine sn_iconst (y := m_X2_hasNumber) (pc := 16) dX2_hasNumber_16 kc_iconst_0 ?_
    exact sn_zreturnC (by decide) rfl dX2_hasNumber_17
  refine sn_iconst (y := m_X2_hasNumber) (pc := 12) dX2_hasNumber_12 kc_iconst_1 ?_
  refine sn_goto (y := m_X2_hasNumber) (pc := 13) (tgt := 17) dX2_hasNumber_13 (by decide) ?_
  exact sn_zreturnC (by decide) rfl dX2_hasNumber_17
set_option maxRecDepth 100000 in
theorem c_X2_hasNumber (g : Gl) (p0 : (Option Nat)) (p1 : Int32) : Cn g m_X2_hasNumber eI [vA p0, vI p1] (mCk 2 p0 (f_X2_hasNumber p0 p1)) := cn_of_sn (by decide +kernel) rfl (fun r => ⟨r, rfl⟩) rfl (fun _ _ => sn_ck (s_X2_hasNumber p0 p1))
/-! X2_hasCharacter -/
def f_X2_hasCharacter (p0 : (Option Nat)) (p1 : Int32) : Mo Int32 :=
  (if p1 < 0 then mRt (0 : Int32) else mBd (mGetI 2 4 p0) (fun r1 => (if p1 ≥ r1 then mRt (0 : Int32) else mRt (1 : Int32))))
set_option maxRecDepth 100000 in
theorem s_X2_hasCharacter {cx : CX} (p0 : (Option Nat)) (p1 : Int32) : Sn cx m_X2_hasCharacter eI 0 [(0, vA p0), (1, vI p1)] [] (f_X2_hasCharacter p0 p1) := by
  refine sn_iload_n (y := m_X2_hasCharacter) (pc := 0) dX2_hasCharacter_0 rfl ?_
  refine sn_if_lt (y := m_X2_hasCharacter) (pc := 1) (tgt := 16) dX2_hasCharacter_1 (by decide) (fun _ => ?_) (fun _ => ?_)
  · refine sn_iconst (y := m_X2_hasCharacter) (pc := 16) dX2_hasCharacter_16 kc_iconst_0 ?_
    exact sn_zreturnC (by decide) rfl dX2_hasCharacter_17
  refine sn_iload_n (y := m_X2_hasCharacter) (pc := 4) dX2_hasCharacter_4 rfl ?_
  refine sn_aload_n (y := m_X2_hasCharacter) (pc := 5) dX2_hasCharacter_5 rfl ?_
  refine sn_getI (y := m_X2_hasCharacter) (pc := 6) ca_2 rfl fk_X2_25 (fun _ _ _ => rfl) dX2_hasCharacter_6 (fun r1 => ?_)
  refine sn_icmp_ge (y := m_X2_hasCharacter) (pc := 9) (tgt := 16) dX2_hasCharacter_9 (by decide) (fun _ => ?_) (fun _ => ?_)
  · refine sn_iconst (y := m_X2_hasCharacter) (pc := 16) dX2_hasCharacter_16 kc_iconst_0 ?_
    exact sn_zreturnC (by decide) rfl dX2_hasCharacter_17
  refine sn_iconst (y := m_X2_hasCharacter) (pc := 12) dX2_hasCharacter_12 kc_iconst_1 ?_
  refine sn_goto (y := m_X2_hasCharacter) (pc := 13) (tgt := 17) dX2_hasCharacter_13 (by decide) ?_
  exact sn_zreturnC (by decide) rfl dX2_hasCharacter_17
set_option maxRecDepth 100000 in
theorem c_X2_hasCharacter (g : Gl) (p0 : (Option Nat)) (p1 : Int32) : Cn g m_X2_hasCharacter eI [vA p0, vI p1] (mCk 2 p0 (f_X2_hasCharacter p0 p1)) := cn_of_sn (by decide +kernel) rfl (fun r => ⟨r, rfl⟩) rfl (fun _ _ => sn_ck (s_X2_hasCharacter p0 p1))
/-! X8_commonPart -/
def f_X8_commonPart_b2 (x0 : Int32) (x1 : Int32) (k2 : Int32 → Mo Int32) (x2 : Int32) : Mo Int32 :=
  (if x2 ≤ (1 : Int32) then mRt (1 : Int32) else mRq (¬ x2 = 0) ((if ¬ (irem x0 x2) = 0 then k2 (x2 + (-1)) else mRq (¬ x2 = 0) ((if ¬ (irem x1 x2) = 0 then k2 (x2 + (-1)) else mRt x2)))))
def f_X8_commonPart_l2 (x0 : Int32) (x1 : Int32) : Int32 → Mo Int32 := lq1 (f_X8_commonPart_b2 x0 x1) fuel
set_option maxRecDepth 100000 in
theorem s_X8_commonPart_b2 {cx : CX} (x0 : Int32) (x1 : Int32) {k2 : Int32 → Mo Int32} (hk2 : ∀ (z2 : Int32), Sn cx m_X8_commonPart eI 2 [(2, vI z2), (0, vI x0), (1, vI x1)] [] (k2 z2)) (x2 : Int32) : Sn cx m_X8_commonPart eI 2 [(2, vI x2), (0, vI x0), (1, vI x1)] [] (f_X8_commonPart_b2 x0 x1 k2 x2) := by
  refine sn_iload_n (y := m_X8_commonPart) (pc := 2) dX8_commonPart_2 rfl ?_
  refine sn_iconst (y := m_X8_commonPart) (pc := 3) dX8_commonPart_3 kc_iconst_1 ?_
  refine sn_icmp_le (y := m_X8_commonPart) (pc := 4) (tgt := 27) dX8_commonPart_4 (by decide) (fun _ => ?_) (fun _ => ?_)
  · refine sn_iconst (y := m_X8_commonPart) (pc := 27) dX8_commonPart_27 kc_iconst_1 ?_
    exact sn_ireturn rfl dX8_commonPart_28
  refine sn_iload_n (y := m_X8_commonPart) (pc := 7) dX8_commonPart_7 rfl ?_
  refine sn_iload_n (y := m_X8_commonPart) (pc := 8) dX8_commonPart_8 rfl ?_
  refine sn_irem (y := m_X8_commonPart) (pc := 9) dX8_commonPart_9 ?_
  refine sn_if_ne (y := m_X8_commonPart) (pc := 10) (tgt := 21) dX8_commonPart_10 (by decide) (fun _ => ?_) (fun _ => ?_)
  · refine sn_iinc (y := m_X8_commonPart) (pc := 21) (v := x2 + (-1)) dX8_commonPart_21 rfl (by rfl) rfl ?_
    refine sn_goto (y := m_X8_commonPart) (pc := 24) (tgt := 2) dX8_commonPart_24 (by decide) ?_
    exact sn_sub rfl (hk2 (x2 + (-1)))
  refine sn_iload_n (y := m_X8_commonPart) (pc := 13) dX8_commonPart_13 rfl ?_
  refine sn_iload_n (y := m_X8_commonPart) (pc := 14) dX8_commonPart_14 rfl ?_
  refine sn_irem (y := m_X8_commonPart) (pc := 15) dX8_commonPart_15 ?_
  refine sn_if_ne (y := m_X8_commonPart) (pc := 16) (tgt := 21) dX8_commonPart_16 (by decide) (fun _ => ?_) (fun _ => ?_)
  · refine sn_iinc (y := m_X8_commonPart) (pc := 21) (v := x2 + (-1)) dX8_commonPart_21 rfl (by rfl) rfl ?_
    refine sn_goto (y := m_X8_commonPart) (pc := 24) (tgt := 2) dX8_commonPart_24 (by decide) ?_
    exact sn_sub rfl (hk2 (x2 + (-1)))
  refine sn_iload_n (y := m_X8_commonPart) (pc := 19) dX8_commonPart_19 rfl ?_
  exact sn_ireturn rfl dX8_commonPart_20
set_option maxRecDepth 100000 in
theorem s_X8_commonPart_l2 {cx : CX} (x0 : Int32) (x1 : Int32) (x2 : Int32) : Sn cx m_X8_commonPart eI 2 [(2, vI x2), (0, vI x0), (1, vI x1)] [] (f_X8_commonPart_l2 x0 x1 x2) :=
  sn_lq1 (L := fun x2 => [(2, vI x2), (0, vI x0), (1, vI x1)]) (fun k hk x2 => s_X8_commonPart_b2 x0 x1 hk x2) fuel x2
def f_X8_commonPart (p0 : Int32) (p1 : Int32) : Mo Int32 :=
  f_X8_commonPart_l2 p0 p1 p0
set_option maxRecDepth 100000 in
theorem s_X8_commonPart {cx : CX} (p0 : Int32) (p1 : Int32) : Sn cx m_X8_commonPart eI 0 [(0, vI p0), (1, vI p1)] [] (f_X8_commonPart p0 p1) := by
  refine sn_iload_n (y := m_X8_commonPart) (pc := 0) dX8_commonPart_0 rfl ?_
  refine sn_istore_n (y := m_X8_commonPart) (pc := 1) dX8_commonPart_1 rfl ?_
  exact sn_sub rfl (s_X8_commonPart_l2 p0 p1 p0)
set_option maxRecDepth 100000 in
theorem c_X8_commonPart (g : Gl) (p0 : Int32) (p1 : Int32) : Cn g m_X8_commonPart eI [vI p0, vI p1] (f_X8_commonPart p0 p1) := cn_of_sn (by decide +kernel) rfl (fun r => ⟨r, rfl⟩) rfl (fun _ _ => s_X8_commonPart p0 p1)
/-! X2_hasTurn -/
def f_X2_hasTurn (p0 : (Option Nat)) (p1 : Int32) : Mo Int32 :=
  (if p1 ≤ 0 then mRt (0 : Int32) else mBd (mGetI 2 4 p0) (fun r1 => (if p1 ≥ r1 then mRt (0 : Int32) else mBd (mGetI 2 4 p0) (fun r2 => mBd (f_X8_commonPart p1 r2) (fun r3 => (if ¬ r3 = (1 : Int32) then mRt (0 : Int32) else mRt (1 : Int32)))))))
set_option maxRecDepth 100000 in
theorem s_X2_hasTurn {cx : CX} (p0 : (Option Nat)) (p1 : Int32) : Sn cx m_X2_hasTurn eI 0 [(0, vA p0), (1, vI p1)] [] (f_X2_hasTurn p0 p1) := by
  refine sn_iload_n (y := m_X2_hasTurn) (pc := 0) dX2_hasTurn_0 rfl ?_
  refine sn_if_le (y := m_X2_hasTurn) (pc := 1) (tgt := 28) dX2_hasTurn_1 (by decide) (fun _ => ?_) (fun _ => ?_)
  · refine sn_iconst (y := m_X2_hasTurn) (pc := 28) dX2_hasTurn_28 kc_iconst_0 ?_
    exact sn_zreturnC (by decide) rfl dX2_hasTurn_29
  refine sn_iload_n (y := m_X2_hasTurn) (pc := 4) dX2_hasTurn_4 rfl ?_
  refine sn_aload_n (y := m_X2_hasTurn) (pc := 5) dX2_hasTurn_5 rfl ?_
  refine sn_getI (y := m_X2_hasTurn) (pc := 6) ca_2 rfl fk_X2_25 (fun _ _ _ => rfl) dX2_hasTurn_6 (fun r1 => ?_)
  refine sn_icmp_ge (y := m_X2_hasTurn) (pc := 9) (tgt := 28) dX2_hasTurn_9 (by decide) (fun _ => ?_) (fun _ => ?_)
  · refine sn_iconst (y := m_X2_hasTurn) (pc := 28) dX2_hasTurn_28 kc_iconst_0 ?_
    exact sn_zreturnC (by decide) rfl dX2_hasTurn_29
  refine sn_iload_n (y := m_X2_hasTurn) (pc := 12) dX2_hasTurn_12 rfl ?_
  refine sn_aload_n (y := m_X2_hasTurn) (pc := 13) dX2_hasTurn_13 rfl ?_
  refine sn_getI (y := m_X2_hasTurn) (pc := 14) ca_2 rfl fk_X2_25 (fun _ _ _ => rfl) dX2_hasTurn_14 (fun r2 => ?_)
  refine sn_invS (y := m_X2_hasTurn) (pc := 17) (av := [vI p1, vI r2]) (st := []) dX2_hasTurn_17 lk_X2_52 sw_X8_commonPart rfl rfl rfl ⟨by decide, by decide⟩ (c_X8_commonPart cx.1 p1 r2) (fun r3 => ?_)
  refine sn_iconst (y := m_X2_hasTurn) (pc := 20) dX2_hasTurn_20 kc_iconst_1 ?_
  refine sn_icmp_ne (y := m_X2_hasTurn) (pc := 21) (tgt := 28) dX2_hasTurn_21 (by decide) (fun _ => ?_) (fun _ => ?_)
  · refine sn_iconst (y := m_X2_hasTurn) (pc := 28) dX2_hasTurn_28 kc_iconst_0 ?_
    exact sn_zreturnC (by decide) rfl dX2_hasTurn_29
  refine sn_iconst (y := m_X2_hasTurn) (pc := 24) dX2_hasTurn_24 kc_iconst_1 ?_
  refine sn_goto (y := m_X2_hasTurn) (pc := 25) (tgt := 29) dX2_hasTurn_25 (by decide) ?_
  exact sn_zreturnC (by decide) rfl dX2_hasTurn_29
set_option maxRecDepth 100000 in
theorem c_X2_hasTurn (g : Gl) (p0 : (Option Nat)) (p1 : Int32) : Cn g m_X2_hasTurn eI [vA p0, vI p1] (mCk 2 p0 (f_X2_hasTurn p0 p1)) := cn_of_sn (by decide +kernel) rfl (fun r => ⟨r, rfl⟩) rfl (fun _ _ => sn_ck (s_X2_hasTurn p0 p1))
/-! X2_logOf -/
def f_X2_logOf (p0 : (Option Nat)) (p1 : Int32) : Mo Int32 :=
  mBd (mGetA 2 0 p0) (fun r1 => mBd (f_X6_cell r1 p1) (fun r2 => mRt r2))
set_option maxRecDepth 100000 in
theorem s_X2_logOf {cx : CX} (p0 : (Option Nat)) (p1 : Int32) : Sn cx m_X2_logOf eI 0 [(0, vA p0), (1, vI p1)] [] (f_X2_logOf p0 p1) := by
  refine sn_aload_n (y := m_X2_logOf) (pc := 0) dX2_logOf_0 rfl ?_
  refine sn_getA (y := m_X2_logOf) (pc := 1) ca_2 rfl fk_X2_11 (fun _ _ _ => rfl) dX2_logOf_1 (fun r1 => ?_)
  refine sn_iload_n (y := m_X2_logOf) (pc := 4) dX2_logOf_4 rfl ?_
  refine sn_invS (y := m_X2_logOf) (pc := 5) (av := [vA r1, vI p1]) (st := []) dX2_logOf_5 lk_X2_42 sw_X6_cell rfl rfl rfl ⟨by decide, by decide⟩ (c_X6_cell cx.1 r1 p1) (fun r2 => ?_)
  exact sn_ireturn rfl dX2_logOf_8
set_option maxRecDepth 100000 in
theorem c_X2_logOf (g : Gl) (p0 : (Option Nat)) (p1 : Int32) : Cn g m_X2_logOf eI [vA p0, vI p1] (mCk 2 p0 (f_X2_logOf p0 p1)) := cn_of_sn (by decide +kernel) rfl (fun r => ⟨r, rfl⟩) rfl (fun _ _ => sn_ck (s_X2_logOf p0 p1))
/-! X2_characterAt -/
def f_X2_characterAt (p0 : (Option Nat)) (p1 : Int32) (p2 : Int32) : Mo Int32 :=
  (if ¬ p2 = 0 then mBd (mGetA 2 0 p0) (fun r1 => mBd (f_X6_cell r1 p2) (fun r2 => mBd (mGetI 2 4 p0) (fun r3 => mBd (f_X6_mod ((p1 * r2).toInt64) r3) (fun r4 => mRt r4)))) else (if ¬ p1 = 0 then mRt (-2 : Int32) else mRt (0 : Int32)))
set_option maxRecDepth 100000 in
theorem s_X2_characterAt {cx : CX} (p0 : (Option Nat)) (p1 : Int32) (p2 : Int32) : Sn cx m_X2_characterAt eI 0 [(0, vA p0), (1, vI p1), (2, vI p2)] [] (f_X2_characterAt p0 p1 p2) := by
  refine sn_iload_n (y := m_X2_characterAt) (pc := 0) dX2_characterAt_0 rfl ?_
  refine sn_if_ne (y := m_X2_characterAt) (pc := 1) (tgt := 15) dX2_characterAt_1 (by decide) (fun _ => ?_) (fun _ => ?_)
  · refine sn_iload_n (y := m_X2_characterAt) (pc := 15) dX2_characterAt_15 rfl ?_
    refine sn_aload_n (y := m_X2_characterAt) (pc := 16) dX2_characterAt_16 rfl ?_
    refine sn_getA (y := m_X2_characterAt) (pc := 17) ca_2 rfl fk_X2_11 (fun _ _ _ => rfl) dX2_characterAt_17 (fun r1 => ?_)
    refine sn_iload_n (y := m_X2_characterAt) (pc := 20) dX2_characterAt_20 rfl ?_
    refine sn_invS (y := m_X2_characterAt) (pc := 21) (av := [vA r1, vI p2]) (st := [vI p1]) dX2_characterAt_21 lk_X2_42 sw_X6_cell rfl rfl rfl ⟨by decide, by decide⟩ (c_X6_cell cx.1 r1 p2) (fun r2 => ?_)
    refine sn_imul (y := m_X2_characterAt) (pc := 24) dX2_characterAt_24 ?_
    refine sn_i2l (y := m_X2_characterAt) (pc := 25) dX2_characterAt_25 ?_
    refine sn_aload_n (y := m_X2_characterAt) (pc := 26) dX2_characterAt_26 rfl ?_
    refine sn_getI (y := m_X2_characterAt) (pc := 27) ca_2 rfl fk_X2_25 (fun _ _ _ => rfl) dX2_characterAt_27 (fun r3 => ?_)
    refine sn_invS (y := m_X2_characterAt) (pc := 30) (av := [vJ ((p1 * r2).toInt64), vI r3]) (st := []) dX2_characterAt_30 lk_X2_38 sw_X6_mod rfl rfl rfl ⟨by decide, by decide⟩ (c_X6_mod cx.1 ((p1 * r2).toInt64) r3) (fun r4 => ?_)
    exact sn_ireturn rfl dX2_characterAt_33
  refine sn_iload_n (y := m_X2_characterAt) (pc := 4) dX2_characterAt_4 rfl ?_
  refine sn_if_ne (y := m_X2_characterAt) (pc := 5) (tgt := 12) dX2_characterAt_5 (by decide) (fun _ => ?_) (fun _ => ?_)
  · refine sn_bipush (y := m_X2_characterAt) (pc := 12) dX2_characterAt_12 kc_bipush_m2 ?_
    exact sn_ireturn rfl dX2_characterAt_14
  refine sn_iconst (y := m_X2_characterAt) (pc := 8) dX2_characterAt_8 kc_iconst_0 ?_
  refine sn_goto (y := m_X2_characterAt) (pc := 9) (tgt := 14) dX2_characterAt_9 (by decide) ?_
  exact sn_ireturn rfl dX2_characterAt_14
set_option maxRecDepth 100000 in
theorem c_X2_characterAt (g : Gl) (p0 : (Option Nat)) (p1 : Int32) (p2 : Int32) : Cn g m_X2_characterAt eI [vA p0, vI p1, vI p2] (mCk 2 p0 (f_X2_characterAt p0 p1 p2)) := cn_of_sn (by decide +kernel) rfl (fun r => ⟨r, rfl⟩) rfl (fun _ _ => sn_ck (s_X2_characterAt p0 p1 p2))
/-! X5_clear -/
def f_X5_clear (p0 : (Option Nat)) : Mo Unit :=
  mBd (mGetA 5 0 p0) (fun r1 => mBd (f_X6_setWhole r1 (0 : Int64)) (fun _ => mRt ()))
set_option maxRecDepth 100000 in
theorem s_X5_clear {cx : CX} (p0 : (Option Nat)) : Sn cx m_X5_clear eV 0 [(0, vA p0)] [] (f_X5_clear p0) := by
  refine sn_aload_n (y := m_X5_clear) (pc := 0) dX5_clear_0 rfl ?_
  refine sn_getA (y := m_X5_clear) (pc := 1) ca_5 rfl fk_X5_11 (fun _ _ _ => rfl) dX5_clear_1 (fun r1 => ?_)
  refine sn_lconst (y := m_X5_clear) (pc := 4) dX5_clear_4 kc_lconst_0 ?_
  refine sn_invS (y := m_X5_clear) (pc := 5) (av := [vA r1, vJ (0 : Int64)]) (st := []) dX5_clear_5 lk_X5_19 sw_X6_setWhole rfl rfl rfl ⟨by decide, by decide⟩ (c_X6_setWhole cx.1 r1 (0 : Int64)) (fun _ => ?_)
  exact sn_return rfl dX5_clear_8
set_option maxRecDepth 100000 in
theorem c_X5_clear (g : Gl) (p0 : (Option Nat)) : Cn g m_X5_clear eV [vA p0] (mCk 5 p0 (f_X5_clear p0)) := cn_of_sn (by decide +kernel) rfl (fun _ => rfl) rfl (fun _ _ => sn_ck (s_X5_clear p0))
/-! J9_floorMod_7cf53 -/
def f_J9_floorMod_7cf53 (p0 : Int32) (p1 : Int32) : Mo Int32 :=
  mRq (¬ p1 = 0) (mNm (irem p0 p1) (fun n1 => (if (p0 ^^^ p1) ≥ 0 then mRt n1 else (if n1 = 0 then mRt n1 else mRt (n1 + p1)))))
set_option maxRecDepth 100000 in
theorem s_J9_floorMod_7cf53 {cx : CX} (p0 : Int32) (p1 : Int32) : Sn cx m_J9_floorMod_7cf53 eI 0 [(0, vI p0), (1, vI p1)] [] (f_J9_floorMod_7cf53 p0 p1) := by
  refine sn_iload_n (y := m_J9_floorMod_7cf53) (pc := 0) dJ9_floorMod_7cf53_0 rfl ?_
  refine sn_iload_n (y := m_J9_floorMod_7cf53) (pc := 1) dJ9_floorMod_7cf53_1 rfl ?_
  refine sn_irem (y := m_J9_floorMod_7cf53) (pc := 2) dJ9_floorMod_7cf53_2 ?_
  refine sn_istore_nM (y := m_J9_floorMod_7cf53) (pc := 3) dJ9_floorMod_7cf53_3 rfl (fun n1 => ?_)
  refine sn_iload_n (y := m_J9_floorMod_7cf53) (pc := 4) dJ9_floorMod_7cf53_4 rfl ?_
  refine sn_iload_n (y := m_J9_floorMod_7cf53) (pc := 5) dJ9_floorMod_7cf53_5 rfl ?_
  refine sn_ixor (y := m_J9_floorMod_7cf53) (pc := 6) dJ9_floorMod_7cf53_6 ?_
  refine sn_if_ge (y := m_J9_floorMod_7cf53) (pc := 7) (tgt := 18) dJ9_floorMod_7cf53_7 (by decide) (fun _ => ?_) (fun _ => ?_)
  · refine sn_iload_n (y := m_J9_floorMod_7cf53) (pc := 18) dJ9_floorMod_7cf53_18 rfl ?_
    exact sn_ireturn rfl dJ9_floorMod_7cf53_19
  refine sn_iload_n (y := m_J9_floorMod_7cf53) (pc := 10) dJ9_floorMod_7cf53_10 rfl ?_
  refine sn_if_eq (y := m_J9_floorMod_7cf53) (pc := 11) (tgt := 18) dJ9_floorMod_7cf53_11 (by decide) (fun _ => ?_) (fun _ => ?_)
  · refine sn_iload_n (y := m_J9_floorMod_7cf53) (pc := 18) dJ9_floorMod_7cf53_18 rfl ?_
    exact sn_ireturn rfl dJ9_floorMod_7cf53_19
  refine sn_iload_n (y := m_J9_floorMod_7cf53) (pc := 14) dJ9_floorMod_7cf53_14 rfl ?_
  refine sn_iload_n (y := m_J9_floorMod_7cf53) (pc := 15) dJ9_floorMod_7cf53_15 rfl ?_
  refine sn_iadd (y := m_J9_floorMod_7cf53) (pc := 16) dJ9_floorMod_7cf53_16 ?_
  exact sn_ireturn rfl dJ9_floorMod_7cf53_17
set_option maxRecDepth 100000 in
theorem c_J9_floorMod_7cf53 (g : Gl) (p0 : Int32) (p1 : Int32) : Cn g m_J9_floorMod_7cf53 eI [vI p0, vI p1] (f_J9_floorMod_7cf53 p0 p1) := cn_of_sn (by decide +kernel) rfl (fun r => ⟨r, rfl⟩) rfl (fun _ _ => s_J9_floorMod_7cf53 p0 p1)
/-! X5_collect -/
def f_X5_collect_j16 (x0 : (Option Nat)) (x2 : Int64) (s0 : Int32) : Mo Unit :=
  (if s0 < 0 then mRt () else mBd (mGetA 5 0 x0) (fun r2 => mBd (mLen r2) (fun r3 => (if s0 ≥ r3 then mRt () else mBd (mGetA 5 0 x0) (fun r4 => mBd (mLdJ r4 s0) (fun r5 => mBd (mStJ r4 s0 (r5 + x2)) (fun _ => mRt ())))))))
set_option maxRecDepth 100000 in
theorem s_X5_collect_j16 {cx : CX} (x0 : (Option Nat)) (x2 : Int64) (s0 : Int32) : Sn cx m_X5_collect eV 16 [(0, vA x0), (2, vJ x2)] [vI s0] (f_X5_collect_j16 x0 x2 s0) := by
  refine sn_istore (y := m_X5_collect) (pc := 16) dX5_collect_16 rfl ?_
  refine sn_iload (y := m_X5_collect) (pc := 18) dX5_collect_18 rfl ?_
  refine sn_if_lt (y := m_X5_collect) (pc := 20) (tgt := 44) dX5_collect_20 (by decide) (fun _ => ?_) (fun _ => ?_)
  · exact sn_return rfl dX5_collect_44
  refine sn_iload (y := m_X5_collect) (pc := 23) dX5_collect_23 rfl ?_
  refine sn_aload_n (y := m_X5_collect) (pc := 25) dX5_collect_25 rfl ?_
  refine sn_getA (y := m_X5_collect) (pc := 26) ca_5 rfl fk_X5_11 (fun _ _ _ => rfl) dX5_collect_26 (fun r2 => ?_)
  refine sn_alen (y := m_X5_collect) (pc := 29) dX5_collect_29 (fun r3 => ?_)
  refine sn_icmp_ge (y := m_X5_collect) (pc := 30) (tgt := 44) dX5_collect_30 (by decide) (fun _ => ?_) (fun _ => ?_)
  · exact sn_return rfl dX5_collect_44
  refine sn_aload_n (y := m_X5_collect) (pc := 33) dX5_collect_33 rfl ?_
  refine sn_getA (y := m_X5_collect) (pc := 34) ca_5 rfl fk_X5_11 (fun _ _ _ => rfl) dX5_collect_34 (fun r4 => ?_)
  refine sn_iload (y := m_X5_collect) (pc := 37) dX5_collect_37 rfl ?_
  refine sn_dup2 (y := m_X5_collect) (pc := 39) rfl rfl dX5_collect_39 ?_
  refine sn_laload (y := m_X5_collect) (pc := 40) dX5_collect_40 (fun r5 => ?_)
  refine sn_lload_n (y := m_X5_collect) (pc := 41) dX5_collect_41 rfl ?_
  refine sn_ladd (y := m_X5_collect) (pc := 42) dX5_collect_42 ?_
  refine sn_lastore (y := m_X5_collect) (pc := 43) dX5_collect_43 ?_
  exact sn_return rfl dX5_collect_44
def f_X5_collect (p0 : (Option Nat)) (p1 : Int32) (p2 : Int64) (p4 : Int32) : Mo Unit :=
  (if p4 ≥ (1 : Int32) then mBd (f_J9_floorMod_7cf53 p1 p4) (fun r1 => f_X5_collect_j16 p0 p2 r1) else f_X5_collect_j16 p0 p2 (-1 : Int32))
set_option maxRecDepth 100000 in
theorem s_X5_collect {cx : CX} (p0 : (Option Nat)) (p1 : Int32) (p2 : Int64) (p4 : Int32) : Sn cx m_X5_collect eV 0 [(0, vA p0), (1, vI p1), (2, vJ p2), (4, vI p4)] [] (f_X5_collect p0 p1 p2 p4) := by
  refine sn_iload (y := m_X5_collect) (pc := 0) dX5_collect_0 rfl ?_
  refine sn_iconst (y := m_X5_collect) (pc := 2) dX5_collect_2 kc_iconst_1 ?_
  refine sn_icmp_ge (y := m_X5_collect) (pc := 3) (tgt := 10) dX5_collect_3 (by decide) (fun _ => ?_) (fun _ => ?_)
  · refine sn_iload_n (y := m_X5_collect) (pc := 10) dX5_collect_10 rfl ?_
    refine sn_iload (y := m_X5_collect) (pc := 11) dX5_collect_11 rfl ?_
    refine sn_invS (y := m_X5_collect) (pc := 13) (av := [vI p1, vI p4]) (st := []) dX5_collect_13 lk_X5_25 sw_J9_floorMod_7cf53 rfl rfl rfl ⟨by decide, by decide⟩ (c_J9_floorMod_7cf53 cx.1 p1 p4) (fun r1 => ?_)
    exact sn_sub rfl (s_X5_collect_j16 p0 p2 r1)
  refine sn_iconst (y := m_X5_collect) (pc := 6) dX5_collect_6 kc_iconst_m1 ?_
  refine sn_goto (y := m_X5_collect) (pc := 7) (tgt := 16) dX5_collect_7 (by decide) ?_
  exact sn_sub rfl (s_X5_collect_j16 p0 p2 (-1 : Int32))
set_option maxRecDepth 100000 in
theorem c_X5_collect (g : Gl) (p0 : (Option Nat)) (p1 : Int32) (p2 : Int64) (p4 : Int32) : Cn g m_X5_collect eV [vA p0, vI p1, vJ p2, vI p4] (mCk 5 p0 (f_X5_collect p0 p1 p2 p4)) := cn_of_sn (by decide +kernel) rfl (fun _ => rfl) rfl (fun _ _ => sn_ck (s_X5_collect p0 p1 p2 p4))
/-! X5_settle -/
def f_X5_settle_b30 (k10 : Int32 → Mo Unit) (x0 : (Option Nat)) (x1 : (Option Nat)) (x2 : Int32) (x3 : Int32) (x4 : Int32) (x5 : Int64) (k30 : Int32 → Mo Unit) (x7 : Int32) : Mo Unit :=
  (if x7 > x3 then k10 (x4 + (-1)) else mNm ((x4 - x3) + x7) (fun n6 => mBd (mGetA 5 0 x0) (fun r7 => mBd (mGetA 5 0 x0) (fun r8 => mBd (f_X6_at r8 n6) (fun r9 => mBd (f_X6_cell ((some 1)) ((x2 * (11 : Int32)) + x7)) (fun r10 => mBd (f_X6_put r7 n6 (r9 - (x5 * (r10.toInt64)))) (fun _ => k30 (x7 + 1))))))))
def f_X5_settle_l30 (k10 : Int32 → Mo Unit) (x0 : (Option Nat)) (x1 : (Option Nat)) (x2 : Int32) (x3 : Int32) (x4 : Int32) (x5 : Int64) : Int32 → Mo Unit := lq1 (f_X5_settle_b30 k10 x0 x1 x2 x3 x4 x5) fuel
set_option maxRecDepth 100000 in
theorem s_X5_settle_b30 {cx : CX} {k10 : Int32 → Mo Unit} (x0 : (Option Nat)) (x1 : (Option Nat)) (x2 : Int32) (x3 : Int32) (x4 : Int32) (x5 : Int64) (hk10 : ∀ (z4 : Int32), Sn cx m_X5_settle eV 10 [(4, vI z4), (0, vA x0), (1, vA x1), (2, vI x2), (3, vI x3)] [] (k10 z4)) {k30 : Int32 → Mo Unit} (hk30 : ∀ (z7 : Int32), Sn cx m_X5_settle eV 30 [(7, vI z7), (0, vA x0), (1, vA x1), (2, vI x2), (3, vI x3), (4, vI x4), (5, vJ x5)] [] (k30 z7)) (x7 : Int32) : Sn cx m_X5_settle eV 30 [(7, vI x7), (0, vA x0), (1, vA x1), (2, vI x2), (3, vI x3), (4, vI x4), (5, vJ x5)] [] (f_X5_settle_b30 k10 x0 x1 x2 x3 x4 x5 k30 x7) := by
  refine sn_iload (y := m_X5_settle) (pc := 30) dX5_settle_30 rfl ?_
  refine sn_iload_n (y := m_X5_settle) (pc := 32) dX5_settle_32 rfl ?_
  refine sn_icmp_gt (y := m_X5_settle) (pc := 33) (tgt := 87) dX5_settle_33 (by decide) (fun _ => ?_) (fun _ => ?_)
  · refine sn_iinc (y := m_X5_settle) (pc := 87) (v := x4 + (-1)) dX5_settle_87 rfl (by rfl) rfl ?_
    refine sn_goto (y := m_X5_settle) (pc := 90) (tgt := 10) dX5_settle_90 (by decide) ?_
    exact sn_sub rfl (hk10 (x4 + (-1)))
  refine sn_iload (y := m_X5_settle) (pc := 36) dX5_settle_36 rfl ?_
  refine sn_iload_n (y := m_X5_settle) (pc := 38) dX5_settle_38 rfl ?_
  refine sn_isub (y := m_X5_settle) (pc := 39) dX5_settle_39 ?_
  refine sn_iload (y := m_X5_settle) (pc := 40) dX5_settle_40 rfl ?_
  refine sn_iadd (y := m_X5_settle) (pc := 42) dX5_settle_42 ?_
  refine sn_istoreM (y := m_X5_settle) (pc := 43) dX5_settle_43 rfl (fun n6 => ?_)
  refine sn_aload_n (y := m_X5_settle) (pc := 45) dX5_settle_45 rfl ?_
  refine sn_getA (y := m_X5_settle) (pc := 46) ca_5 rfl fk_X5_11 (fun _ _ _ => rfl) dX5_settle_46 (fun r7 => ?_)
  refine sn_iload (y := m_X5_settle) (pc := 49) dX5_settle_49 rfl ?_
  refine sn_aload_n (y := m_X5_settle) (pc := 51) dX5_settle_51 rfl ?_
  refine sn_getA (y := m_X5_settle) (pc := 52) ca_5 rfl fk_X5_11 (fun _ _ _ => rfl) dX5_settle_52 (fun r8 => ?_)
  refine sn_iload (y := m_X5_settle) (pc := 55) dX5_settle_55 rfl ?_
  refine sn_invS (y := m_X5_settle) (pc := 57) (av := [vA r8, vI n6]) (st := [vI n6, vA r7]) dX5_settle_57 lk_X5_35 sw_X6_at rfl rfl rfl ⟨by decide, by decide⟩ (c_X6_at cx.1 r8 n6) (fun r9 => ?_)
  refine sn_lload (y := m_X5_settle) (pc := 60) dX5_settle_60 rfl ?_
  refine sn_least (y := m_X5_settle) (pc := 62) gs_X5_39 dX5_settle_62 ?_
  refine sn_iload_n (y := m_X5_settle) (pc := 65) dX5_settle_65 rfl ?_
  refine sn_bipush (y := m_X5_settle) (pc := 66) dX5_settle_66 kc_bipush_11 ?_
  refine sn_imul (y := m_X5_settle) (pc := 68) dX5_settle_68 ?_
  refine sn_iload (y := m_X5_settle) (pc := 69) dX5_settle_69 rfl ?_
  refine sn_iadd (y := m_X5_settle) (pc := 71) dX5_settle_71 ?_
  refine sn_invS (y := m_X5_settle) (pc := 72) (av := [vA ((some 1)), vI ((x2 * (11 : Int32)) + x7)]) (st := [vJ x5, vJ r9, vI n6, vA r7]) dX5_settle_72 lk_X5_42 sw_X6_cell rfl rfl rfl ⟨by decide, by decide⟩ (c_X6_cell cx.1 ((some 1)) ((x2 * (11 : Int32)) + x7)) (fun r10 => ?_)
  refine sn_i2l (y := m_X5_settle) (pc := 75) dX5_settle_75 ?_
  refine sn_lmul (y := m_X5_settle) (pc := 76) dX5_settle_76 ?_
  refine sn_lsub (y := m_X5_settle) (pc := 77) dX5_settle_77 ?_
  refine sn_invS (y := m_X5_settle) (pc := 78) (av := [vA r7, vI n6, vJ (r9 - (x5 * (r10.toInt64)))]) (st := []) dX5_settle_78 lk_X5_46 sw_X6_put rfl rfl rfl ⟨by decide, by decide⟩ (c_X6_put cx.1 r7 n6 (r9 - (x5 * (r10.toInt64)))) (fun _ => ?_)
  refine sn_iinc (y := m_X5_settle) (pc := 81) (v := x7 + 1) dX5_settle_81 rfl (by rfl) rfl ?_
  refine sn_goto (y := m_X5_settle) (pc := 84) (tgt := 30) dX5_settle_84 (by decide) ?_
  exact sn_sub rfl (hk30 (x7 + 1))
set_option maxRecDepth 100000 in
theorem s_X5_settle_l30 {cx : CX} {k10 : Int32 → Mo Unit} (x0 : (Option Nat)) (x1 : (Option Nat)) (x2 : Int32) (x3 : Int32) (x4 : Int32) (x5 : Int64) (hk10 : ∀ (z4 : Int32), Sn cx m_X5_settle eV 10 [(4, vI z4), (0, vA x0), (1, vA x1), (2, vI x2), (3, vI x3)] [] (k10 z4)) (x7 : Int32) : Sn cx m_X5_settle eV 30 [(7, vI x7), (0, vA x0), (1, vA x1), (2, vI x2), (3, vI x3), (4, vI x4), (5, vJ x5)] [] (f_X5_settle_l30 k10 x0 x1 x2 x3 x4 x5 x7) :=
  sn_lq1 (L := fun x7 => [(7, vI x7), (0, vA x0), (1, vA x1), (2, vI x2), (3, vI x3), (4, vI x4), (5, vJ x5)]) (fun k hk x7 => s_X5_settle_b30 x0 x1 x2 x3 x4 x5 hk10 hk x7) fuel x7
def f_X5_settle_b10 (x0 : (Option Nat)) (x1 : (Option Nat)) (x2 : Int32) (x3 : Int32) (k10 : Int32 → Mo Unit) (x4 : Int32) : Mo Unit :=
  (if x4 < x3 then mBd (mGetA 5 0 x0) (fun r3 => mBd (f_X6_copy r3 x1) (fun _ => mRt ())) else mBd (mGetA 5 0 x0) (fun r4 => mBd (f_X6_at r4 x4) (fun r5 => f_X5_settle_l30 k10 x0 x1 x2 x3 x4 r5 (0 : Int32))))
def f_X5_settle_l10 (x0 : (Option Nat)) (x1 : (Option Nat)) (x2 : Int32) (x3 : Int32) : Int32 → Mo Unit := lq1 (f_X5_settle_b10 x0 x1 x2 x3) fuel
set_option maxRecDepth 100000 in
theorem s_X5_settle_b10 {cx : CX} (x0 : (Option Nat)) (x1 : (Option Nat)) (x2 : Int32) (x3 : Int32) {k10 : Int32 → Mo Unit} (hk10 : ∀ (z4 : Int32), Sn cx m_X5_settle eV 10 [(4, vI z4), (0, vA x0), (1, vA x1), (2, vI x2), (3, vI x3)] [] (k10 z4)) (x4 : Int32) : Sn cx m_X5_settle eV 10 [(4, vI x4), (0, vA x0), (1, vA x1), (2, vI x2), (3, vI x3)] [] (f_X5_settle_b10 x0 x1 x2 x3 k10 x4) := by
  refine sn_iload (y := m_X5_settle) (pc := 10) dX5_settle_10 rfl ?_
  refine sn_iload_n (y := m_X5_settle) (pc := 12) dX5_settle_12 rfl ?_
  refine sn_icmp_lt (y := m_X5_settle) (pc := 13) (tgt := 93) dX5_settle_13 (by decide) (fun _ => ?_) (fun _ => ?_)
  · refine sn_aload_n (y := m_X5_settle) (pc := 93) dX5_settle_93 rfl ?_
    refine sn_getA (y := m_X5_settle) (pc := 94) ca_5 rfl fk_X5_11 (fun _ _ _ => rfl) dX5_settle_94 (fun r3 => ?_)
    refine sn_aload_n (y := m_X5_settle) (pc := 97) dX5_settle_97 rfl ?_
    refine sn_invS (y := m_X5_settle) (pc := 98) (av := [vA r3, vA x1]) (st := []) dX5_settle_98 lk_X5_50 sw_X6_copy rfl rfl rfl ⟨by decide, by decide⟩ (c_X6_copy cx.1 r3 x1) (fun _ => ?_)
    exact sn_return rfl dX5_settle_101
  refine sn_aload_n (y := m_X5_settle) (pc := 16) dX5_settle_16 rfl ?_
  refine sn_getA (y := m_X5_settle) (pc := 17) ca_5 rfl fk_X5_11 (fun _ _ _ => rfl) dX5_settle_17 (fun r4 => ?_)
  refine sn_iload (y := m_X5_settle) (pc := 20) dX5_settle_20 rfl ?_
  refine sn_invS (y := m_X5_settle) (pc := 22) (av := [vA r4, vI x4]) (st := []) dX5_settle_22 lk_X5_35 sw_X6_at rfl rfl rfl ⟨by decide, by decide⟩ (c_X6_at cx.1 r4 x4) (fun r5 => ?_)
  refine sn_lstore (y := m_X5_settle) (pc := 25) dX5_settle_25 rfl ?_
  refine sn_iconst (y := m_X5_settle) (pc := 27) dX5_settle_27 kc_iconst_0 ?_
  refine sn_istore (y := m_X5_settle) (pc := 28) dX5_settle_28 rfl ?_
  exact sn_sub rfl (s_X5_settle_l30 x0 x1 x2 x3 x4 r5 hk10 (0 : Int32))
set_option maxRecDepth 100000 in
theorem s_X5_settle_l10 {cx : CX} (x0 : (Option Nat)) (x1 : (Option Nat)) (x2 : Int32) (x3 : Int32) (x4 : Int32) : Sn cx m_X5_settle eV 10 [(4, vI x4), (0, vA x0), (1, vA x1), (2, vI x2), (3, vI x3)] [] (f_X5_settle_l10 x0 x1 x2 x3 x4) :=
  sn_lq1 (L := fun x4 => [(4, vI x4), (0, vA x0), (1, vA x1), (2, vI x2), (3, vI x3)]) (fun k hk x4 => s_X5_settle_b10 x0 x1 x2 x3 hk x4) fuel x4
def f_X5_settle (p0 : (Option Nat)) (p1 : (Option Nat)) (p2 : Int32) : Mo Unit :=
  mBd (f_X5_lengthOf p2) (fun r1 => mNm (p2 - (1 : Int32)) (fun n2 => f_X5_settle_l10 p0 p1 p2 r1 n2))
set_option maxRecDepth 100000 in
theorem s_X5_settle {cx : CX} (p0 : (Option Nat)) (p1 : (Option Nat)) (p2 : Int32) : Sn cx m_X5_settle eV 0 [(0, vA p0), (1, vA p1), (2, vI p2)] [] (f_X5_settle p0 p1 p2) := by
  refine sn_iload_n (y := m_X5_settle) (pc := 0) dX5_settle_0 rfl ?_
  refine sn_invS (y := m_X5_settle) (pc := 1) (av := [vI p2]) (st := []) dX5_settle_1 lk_X5_31 sw_X5_lengthOf rfl rfl rfl ⟨by decide, by decide⟩ (c_X5_lengthOf cx.1 p2) (fun r1 => ?_)
  refine sn_istore_n (y := m_X5_settle) (pc := 4) dX5_settle_4 rfl ?_
  refine sn_iload_n (y := m_X5_settle) (pc := 5) dX5_settle_5 rfl ?_
  refine sn_iconst (y := m_X5_settle) (pc := 6) dX5_settle_6 kc_iconst_1 ?_
  refine sn_isub (y := m_X5_settle) (pc := 7) dX5_settle_7 ?_
  refine sn_istoreM (y := m_X5_settle) (pc := 8) dX5_settle_8 rfl (fun n2 => ?_)
  exact sn_sub rfl (s_X5_settle_l10 p0 p1 p2 r1 n2)
set_option maxRecDepth 100000 in
theorem c_X5_settle (g : Gl) (p0 : (Option Nat)) (p1 : (Option Nat)) (p2 : Int32) : Cn g m_X5_settle eV [vA p0, vA p1, vI p2] (mCk 5 p0 (f_X5_settle p0 p1 p2)) := cn_of_sn (by decide +kernel) rfl (fun _ => rfl) rfl (fun _ _ => sn_ck (s_X5_settle p0 p1 p2))
/-! X2_jacobiSum -/
def f_X2_jacobiSum_b7 (x0 : (Option Nat)) (x1 : Int32) (x2 : Int32) (x3 : (Option Nat)) (x4 : (Option Nat)) (k7 : Int32 → Mo Unit) (x5 : Int32) : Mo Unit :=
  mBd (mGetI 2 3 x0) (fun r1 => (if x5 ≥ r1 then mBd (mGetI 2 4 x0) (fun r2 => mBd (mCk 5 x3 (f_X5_settle x3 x4 r2)) (fun _ => mRt ())) else mBd (mCk 2 x0 (f_X2_characterAt x0 x1 x5)) (fun r3 => mBd (mGetI 2 3 x0) (fun r4 => mBd (f_X6_mod (((1 : Int32) - x5).toInt64) r4) (fun r5 => mBd (mCk 2 x0 (f_X2_characterAt x0 x2 r5)) (fun r6 => (if r3 = (-2 : Int32) then k7 (x5 + 1) else (if r6 = (-2 : Int32) then k7 (x5 + 1) else mBd (mGetI 2 4 x0) (fun r7 => mBd (mCk 5 x3 (f_X5_collect x3 (r3 + r6) (1 : Int64) r7)) (fun _ => k7 (x5 + 1)))))))))))
def f_X2_jacobiSum_l7 (x0 : (Option Nat)) (x1 : Int32) (x2 : Int32) (x3 : (Option Nat)) (x4 : (Option Nat)) : Int32 → Mo Unit := lq1 (f_X2_jacobiSum_b7 x0 x1 x2 x3 x4) fuel
set_option maxRecDepth 100000 in
theorem s_X2_jacobiSum_b7 {cx : CX} (x0 : (Option Nat)) (x1 : Int32) (x2 : Int32) (x3 : (Option Nat)) (x4 : (Option Nat)) {k7 : Int32 → Mo Unit} (hk7 : ∀ (z5 : Int32), Sn cx m_X2_jacobiSum eV 7 [(5, vI z5), (0, vA x0), (1, vI x1), (2, vI x2), (3, vA x3), (4, vA x4)] [] (k7 z5)) (x5 : Int32) : Sn cx m_X2_jacobiSum eV 7 [(5, vI x5), (0, vA x0), (1, vI x1), (2, vI x2), (3, vA x3), (4, vA x4)] [] (f_X2_jacobiSum_b7 x0 x1 x2 x3 x4 k7 x5) := by
  refine sn_iload (y := m_X2_jacobiSum) (pc := 7) dX2_jacobiSum_7 rfl ?_
  refine sn_aload_n (y := m_X2_jacobiSum) (pc := 9) dX2_jacobiSum_9 rfl ?_
  refine sn_getI (y := m_X2_jacobiSum) (pc := 10) ca_2 rfl fk_X2_21 (fun _ _ _ => rfl) dX2_jacobiSum_10 (fun r1 => ?_)
  refine sn_icmp_ge (y := m_X2_jacobiSum) (pc := 13) (tgt := 78) dX2_jacobiSum_13 (by decide) (fun _ => ?_) (fun _ => ?_)
  · refine sn_aload_n (y := m_X2_jacobiSum) (pc := 78) dX2_jacobiSum_78 rfl ?_
    refine sn_aload (y := m_X2_jacobiSum) (pc := 79) dX2_jacobiSum_79 rfl ?_
    refine sn_aload_n (y := m_X2_jacobiSum) (pc := 81) dX2_jacobiSum_81 rfl ?_
    refine sn_getI (y := m_X2_jacobiSum) (pc := 82) ca_2 rfl fk_X2_25 (fun _ _ _ => rfl) dX2_jacobiSum_82 (fun r2 => ?_)
    refine sn_invV (y := m_X2_jacobiSum) (pc := 85) ca_5 (av := [vA x4, vI r2]) (o := x3) (st := []) dX2_jacobiSum_85 lk_X2_68 im_X5_settle se_X5_settle rfl rfl rfl rfl ⟨by decide, by decide⟩ (c_X5_settle cx.1 x3 x4 r2) (fun _ => ?_)
    exact sn_return rfl dX2_jacobiSum_88
  refine sn_aload_n (y := m_X2_jacobiSum) (pc := 16) dX2_jacobiSum_16 rfl ?_
  refine sn_iload_n (y := m_X2_jacobiSum) (pc := 17) dX2_jacobiSum_17 rfl ?_
  refine sn_iload (y := m_X2_jacobiSum) (pc := 18) dX2_jacobiSum_18 rfl ?_
  refine sn_invV (y := m_X2_jacobiSum) (pc := 20) ca_2 (av := [vI x1, vI x5]) (o := x0) (st := []) dX2_jacobiSum_20 lk_X2_61 im_X2_characterAt se_X2_characterAt rfl rfl rfl rfl ⟨by decide, by decide⟩ (c_X2_characterAt cx.1 x0 x1 x5) (fun r3 => ?_)
  refine sn_istore (y := m_X2_jacobiSum) (pc := 23) dX2_jacobiSum_23 rfl ?_
  refine sn_aload_n (y := m_X2_jacobiSum) (pc := 25) dX2_jacobiSum_25 rfl ?_
  refine sn_iload_n (y := m_X2_jacobiSum) (pc := 26) dX2_jacobiSum_26 rfl ?_
  refine sn_iconst (y := m_X2_jacobiSum) (pc := 27) dX2_jacobiSum_27 kc_iconst_1 ?_
  refine sn_iload (y := m_X2_jacobiSum) (pc := 28) dX2_jacobiSum_28 rfl ?_
  refine sn_isub (y := m_X2_jacobiSum) (pc := 30) dX2_jacobiSum_30 ?_
  refine sn_i2l (y := m_X2_jacobiSum) (pc := 31) dX2_jacobiSum_31 ?_
  refine sn_aload_n (y := m_X2_jacobiSum) (pc := 32) dX2_jacobiSum_32 rfl ?_
  refine sn_getI (y := m_X2_jacobiSum) (pc := 33) ca_2 rfl fk_X2_21 (fun _ _ _ => rfl) dX2_jacobiSum_33 (fun r4 => ?_)
  refine sn_invS (y := m_X2_jacobiSum) (pc := 36) (av := [vJ (((1 : Int32) - x5).toInt64), vI r4]) (st := [vI x2, vA x0]) dX2_jacobiSum_36 lk_X2_38 sw_X6_mod rfl rfl rfl ⟨by decide, by decide⟩ (c_X6_mod cx.1 (((1 : Int32) - x5).toInt64) r4) (fun r5 => ?_)
  refine sn_invV (y := m_X2_jacobiSum) (pc := 39) ca_2 (av := [vI x2, vI r5]) (o := x0) (st := []) dX2_jacobiSum_39 lk_X2_61 im_X2_characterAt se_X2_characterAt rfl rfl rfl rfl ⟨by decide, by decide⟩ (c_X2_characterAt cx.1 x0 x2 r5) (fun r6 => ?_)
  refine sn_istore (y := m_X2_jacobiSum) (pc := 42) dX2_jacobiSum_42 rfl ?_
  refine sn_iload (y := m_X2_jacobiSum) (pc := 44) dX2_jacobiSum_44 rfl ?_
  refine sn_bipush (y := m_X2_jacobiSum) (pc := 46) dX2_jacobiSum_46 kc_bipush_m2 ?_
  refine sn_icmp_eq (y := m_X2_jacobiSum) (pc := 48) (tgt := 72) dX2_jacobiSum_48 (by decide) (fun _ => ?_) (fun _ => ?_)
  · refine sn_iinc (y := m_X2_jacobiSum) (pc := 72) (v := x5 + 1) dX2_jacobiSum_72 rfl (by rfl) rfl ?_
    refine sn_goto (y := m_X2_jacobiSum) (pc := 75) (tgt := 7) dX2_jacobiSum_75 (by decide) ?_
    exact sn_sub rfl (hk7 (x5 + 1))
  refine sn_iload (y := m_X2_jacobiSum) (pc := 51) dX2_jacobiSum_51 rfl ?_
  refine sn_bipush (y := m_X2_jacobiSum) (pc := 53) dX2_jacobiSum_53 kc_bipush_m2 ?_
  refine sn_icmp_eq (y := m_X2_jacobiSum) (pc := 55) (tgt := 72) dX2_jacobiSum_55 (by decide) (fun _ => ?_) (fun _ => ?_)
  · refine sn_iinc (y := m_X2_jacobiSum) (pc := 72) (v := x5 + 1) dX2_jacobiSum_72 rfl (by rfl) rfl ?_
    refine sn_goto (y := m_X2_jacobiSum) (pc := 75) (tgt := 7) dX2_jacobiSum_75 (by decide) ?_
    exact sn_sub rfl (hk7 (x5 + 1))
  refine sn_aload_n (y := m_X2_jacobiSum) (pc := 58) dX2_jacobiSum_58 rfl ?_
  refine sn_iload (y := m_X2_jacobiSum) (pc := 59) dX2_jacobiSum_59 rfl ?_
  refine sn_iload (y := m_X2_jacobiSum) (pc := 61) dX2_jacobiSum_61 rfl ?_
  refine sn_iadd (y := m_X2_jacobiSum) (pc := 63) dX2_jacobiSum_63 ?_
  refine sn_lconst (y := m_X2_jacobiSum) (pc := 64) dX2_jacobiSum_64 kc_lconst_1 ?_
  refine sn_aload_n (y := m_X2_jacobiSum) (pc := 65) dX2_jacobiSum_65 rfl ?_
  refine sn_getI (y := m_X2_jacobiSum) (pc := 66) ca_2 rfl fk_X2_25 (fun _ _ _ => rfl) dX2_jacobiSum_66 (fun r7 => ?_)
  refine sn_invV (y := m_X2_jacobiSum) (pc := 69) ca_5 (av := [vI (r3 + r6), vJ (1 : Int64), vI r7]) (o := x3) (st := []) dX2_jacobiSum_69 lk_X2_64 im_X5_collect se_X5_collect rfl rfl rfl rfl ⟨by decide, by decide⟩ (c_X5_collect cx.1 x3 (r3 + r6) (1 : Int64) r7) (fun _ => ?_)
  refine sn_iinc (y := m_X2_jacobiSum) (pc := 72) (v := x5 + 1) dX2_jacobiSum_72 rfl (by rfl) rfl ?_
  refine sn_goto (y := m_X2_jacobiSum) (pc := 75) (tgt := 7) dX2_jacobiSum_75 (by decide) ?_
  exact sn_sub rfl (hk7 (x5 + 1))
set_option maxRecDepth 100000 in
theorem s_X2_jacobiSum_l7 {cx : CX} (x0 : (Option Nat)) (x1 : Int32) (x2 : Int32) (x3 : (Option Nat)) (x4 : (Option Nat)) (x5 : Int32) : Sn cx m_X2_jacobiSum eV 7 [(5, vI x5), (0, vA x0), (1, vI x1), (2, vI x2), (3, vA x3), (4, vA x4)] [] (f_X2_jacobiSum_l7 x0 x1 x2 x3 x4 x5) :=
  sn_lq1 (L := fun x5 => [(5, vI x5), (0, vA x0), (1, vI x1), (2, vI x2), (3, vA x3), (4, vA x4)]) (fun k hk x5 => s_X2_jacobiSum_b7 x0 x1 x2 x3 x4 hk x5) fuel x5
def f_X2_jacobiSum (p0 : (Option Nat)) (p1 : Int32) (p2 : Int32) (p3 : (Option Nat)) (p4 : (Option Nat)) : Mo Unit :=
  mBd (mCk 5 p3 (f_X5_clear p3)) (fun _ => f_X2_jacobiSum_l7 p0 p1 p2 p3 p4 (0 : Int32))
set_option maxRecDepth 100000 in
theorem s_X2_jacobiSum {cx : CX} (p0 : (Option Nat)) (p1 : Int32) (p2 : Int32) (p3 : (Option Nat)) (p4 : (Option Nat)) : Sn cx m_X2_jacobiSum eV 0 [(0, vA p0), (1, vI p1), (2, vI p2), (3, vA p3), (4, vA p4)] [] (f_X2_jacobiSum p0 p1 p2 p3 p4) := by
  refine sn_aload_n (y := m_X2_jacobiSum) (pc := 0) dX2_jacobiSum_0 rfl ?_
  refine sn_invV (y := m_X2_jacobiSum) (pc := 1) ca_5 (av := []) (o := p3) (st := []) dX2_jacobiSum_1 lk_X2_58 im_X5_clear se_X5_clear rfl rfl rfl rfl ⟨by decide, by decide⟩ (c_X5_clear cx.1 p3) (fun _ => ?_)
  refine sn_iconst (y := m_X2_jacobiSum) (pc := 4) dX2_jacobiSum_4 kc_iconst_0 ?_
  refine sn_istore (y := m_X2_jacobiSum) (pc := 5) dX2_jacobiSum_5 rfl ?_
  exact sn_sub rfl (s_X2_jacobiSum_l7 p0 p1 p2 p3 p4 (0 : Int32))
set_option maxRecDepth 100000 in
theorem c_X2_jacobiSum (g : Gl) (p0 : (Option Nat)) (p1 : Int32) (p2 : Int32) (p3 : (Option Nat)) (p4 : (Option Nat)) : Cn g m_X2_jacobiSum eV [vA p0, vI p1, vI p2, vA p3, vA p4] (mCk 2 p0 (f_X2_jacobiSum p0 p1 p2 p3 p4)) := cn_of_sn (by decide +kernel) rfl (fun _ => rfl) rfl (fun _ _ => sn_ck (s_X2_jacobiSum p0 p1 p2 p3 p4))
/-! X2_partOf -/
def f_X2_partOf_b58 (x0 : (Option Nat)) (x1 : (Option Nat)) (x4 : Int64) (k58 : Int64 → Int32 → Mo Int32) (x6 : Int64) (x8 : Int32) : Mo Int32 :=
  (if x8 < 0 then mRt (x6.toInt32) else mBd (f_X6_at x1 x8) (fun r11 => mBd (mGetI 2 3 x0) (fun r12 => mBd (f_X6_mod ((x6 * x4) + r11) r12) (fun r13 => mNm (r13.toInt64) (fun n14 => k58 n14 (x8 + (-1)))))))
def f_X2_partOf_l58 (x0 : (Option Nat)) (x1 : (Option Nat)) (x4 : Int64) : Int64 → Int32 → Mo Int32 := lq2 (f_X2_partOf_b58 x0 x1 x4) fuel
set_option maxRecDepth 100000 in
theorem s_X2_partOf_b58 {cx : CX} (x0 : (Option Nat)) (x1 : (Option Nat)) (x4 : Int64) {k58 : Int64 → Int32 → Mo Int32} (hk58 : ∀ (z6 : Int64) (z8 : Int32), Sn cx m_X2_partOf eI 58 [(6, vJ z6), (8, vI z8), (0, vA x0), (1, vA x1), (4, vJ x4)] [] (k58 z6 z8)) (x6 : Int64) (x8 : Int32) : Sn cx m_X2_partOf eI 58 [(6, vJ x6), (8, vI x8), (0, vA x0), (1, vA x1), (4, vJ x4)] [] (f_X2_partOf_b58 x0 x1 x4 k58 x6 x8) := by
  refine sn_iload (y := m_X2_partOf) (pc := 58) dX2_partOf_58 rfl ?_
  refine sn_if_lt (y := m_X2_partOf) (pc := 60) (tgt := 91) dX2_partOf_60 (by decide) (fun _ => ?_) (fun _ => ?_)
  · refine sn_lload (y := m_X2_partOf) (pc := 91) dX2_partOf_91 rfl ?_
    refine sn_l2i (y := m_X2_partOf) (pc := 93) dX2_partOf_93 ?_
    exact sn_ireturn rfl dX2_partOf_94
  refine sn_lload (y := m_X2_partOf) (pc := 63) dX2_partOf_63 rfl ?_
  refine sn_lload (y := m_X2_partOf) (pc := 65) dX2_partOf_65 rfl ?_
  refine sn_lmul (y := m_X2_partOf) (pc := 67) dX2_partOf_67 ?_
  refine sn_aload_n (y := m_X2_partOf) (pc := 68) dX2_partOf_68 rfl ?_
  refine sn_iload (y := m_X2_partOf) (pc := 69) dX2_partOf_69 rfl ?_
  refine sn_invS (y := m_X2_partOf) (pc := 71) (av := [vA x1, vI x8]) (st := [vJ (x6 * x4)]) dX2_partOf_71 lk_X2_76 sw_X6_at rfl rfl rfl ⟨by decide, by decide⟩ (c_X6_at cx.1 x1 x8) (fun r11 => ?_)
  refine sn_ladd (y := m_X2_partOf) (pc := 74) dX2_partOf_74 ?_
  refine sn_aload_n (y := m_X2_partOf) (pc := 75) dX2_partOf_75 rfl ?_
  refine sn_getI (y := m_X2_partOf) (pc := 76) ca_2 rfl fk_X2_21 (fun _ _ _ => rfl) dX2_partOf_76 (fun r12 => ?_)
  refine sn_invS (y := m_X2_partOf) (pc := 79) (av := [vJ ((x6 * x4) + r11), vI r12]) (st := []) dX2_partOf_79 lk_X2_38 sw_X6_mod rfl rfl rfl ⟨by decide, by decide⟩ (c_X6_mod cx.1 ((x6 * x4) + r11) r12) (fun r13 => ?_)
  refine sn_i2l (y := m_X2_partOf) (pc := 82) dX2_partOf_82 ?_
  refine sn_lstoreM (y := m_X2_partOf) (pc := 83) dX2_partOf_83 rfl (fun n14 => ?_)
  refine sn_iinc (y := m_X2_partOf) (pc := 85) (v := x8 + (-1)) dX2_partOf_85 rfl (by rfl) rfl ?_
  refine sn_goto (y := m_X2_partOf) (pc := 88) (tgt := 58) dX2_partOf_88 (by decide) ?_
  exact sn_sub rfl (hk58 n14 (x8 + (-1)))
set_option maxRecDepth 100000 in
theorem s_X2_partOf_l58 {cx : CX} (x0 : (Option Nat)) (x1 : (Option Nat)) (x4 : Int64) (x6 : Int64) (x8 : Int32) : Sn cx m_X2_partOf eI 58 [(6, vJ x6), (8, vI x8), (0, vA x0), (1, vA x1), (4, vJ x4)] [] (f_X2_partOf_l58 x0 x1 x4 x6 x8) :=
  sn_lq2 (L := fun x6 x8 => [(6, vJ x6), (8, vI x8), (0, vA x0), (1, vA x1), (4, vJ x4)]) (fun k hk x6 x8 => s_X2_partOf_b58 x0 x1 x4 hk x6 x8) fuel x6 x8
def f_X2_partOf_j23 (x0 : (Option Nat)) (x1 : (Option Nat)) (x2 : Int32) (s0 : Int32) : Mo Int32 :=
  mBd (mGetA 2 1 x0) (fun r4 => mBd (mGetI 2 3 x0) (fun r5 => mBd (f_X6_mod ((x2 * s0).toInt64) (r5 - (1 : Int32))) (fun r6 => mBd (f_X6_cell r4 r6) (fun r7 => mNm (r7.toInt64) (fun n8 => mBd (mCk 2 x0 (f_X2_rowLength x0)) (fun r9 => mNm (r9 - (1 : Int32)) (fun n10 => f_X2_partOf_l58 x0 x1 n8 (0 : Int64) n10)))))))
set_option maxRecDepth 100000 in
theorem s_X2_partOf_j23 {cx : CX} (x0 : (Option Nat)) (x1 : (Option Nat)) (x2 : Int32) (s0 : Int32) : Sn cx m_X2_partOf eI 23 [(0, vA x0), (1, vA x1), (2, vI x2)] [vI s0] (f_X2_partOf_j23 x0 x1 x2 s0) := by
  refine sn_istore_n (y := m_X2_partOf) (pc := 23) dX2_partOf_23 rfl ?_
  refine sn_aload_n (y := m_X2_partOf) (pc := 24) dX2_partOf_24 rfl ?_
  refine sn_getA (y := m_X2_partOf) (pc := 25) ca_2 rfl fk_X2_15 (fun _ _ _ => rfl) dX2_partOf_25 (fun r4 => ?_)
  refine sn_iload_n (y := m_X2_partOf) (pc := 28) dX2_partOf_28 rfl ?_
  refine sn_iload_n (y := m_X2_partOf) (pc := 29) dX2_partOf_29 rfl ?_
  refine sn_imul (y := m_X2_partOf) (pc := 30) dX2_partOf_30 ?_
  refine sn_i2l (y := m_X2_partOf) (pc := 31) dX2_partOf_31 ?_
  refine sn_aload_n (y := m_X2_partOf) (pc := 32) dX2_partOf_32 rfl ?_
  refine sn_getI (y := m_X2_partOf) (pc := 33) ca_2 rfl fk_X2_21 (fun _ _ _ => rfl) dX2_partOf_33 (fun r5 => ?_)
  refine sn_iconst (y := m_X2_partOf) (pc := 36) dX2_partOf_36 kc_iconst_1 ?_
  refine sn_isub (y := m_X2_partOf) (pc := 37) dX2_partOf_37 ?_
  refine sn_invS (y := m_X2_partOf) (pc := 38) (av := [vJ ((x2 * s0).toInt64), vI (r5 - (1 : Int32))]) (st := [vA r4]) dX2_partOf_38 lk_X2_38 sw_X6_mod rfl rfl rfl ⟨by decide, by decide⟩ (c_X6_mod cx.1 ((x2 * s0).toInt64) (r5 - (1 : Int32))) (fun r6 => ?_)
  refine sn_invS (y := m_X2_partOf) (pc := 41) (av := [vA r4, vI r6]) (st := []) dX2_partOf_41 lk_X2_42 sw_X6_cell rfl rfl rfl ⟨by decide, by decide⟩ (c_X6_cell cx.1 r4 r6) (fun r7 => ?_)
  refine sn_i2l (y := m_X2_partOf) (pc := 44) dX2_partOf_44 ?_
  refine sn_lstoreM (y := m_X2_partOf) (pc := 45) dX2_partOf_45 rfl (fun n8 => ?_)
  refine sn_lconst (y := m_X2_partOf) (pc := 47) dX2_partOf_47 kc_lconst_0 ?_
  refine sn_lstore (y := m_X2_partOf) (pc := 48) dX2_partOf_48 rfl ?_
  refine sn_aload_n (y := m_X2_partOf) (pc := 50) dX2_partOf_50 rfl ?_
  refine sn_invV (y := m_X2_partOf) (pc := 51) ca_2 (av := []) (o := x0) (st := []) dX2_partOf_51 lk_X2_72 im_X2_rowLength se_X2_rowLength rfl rfl rfl rfl ⟨by decide, by decide⟩ (c_X2_rowLength cx.1 x0) (fun r9 => ?_)
  refine sn_iconst (y := m_X2_partOf) (pc := 54) dX2_partOf_54 kc_iconst_1 ?_
  refine sn_isub (y := m_X2_partOf) (pc := 55) dX2_partOf_55 ?_
  refine sn_istoreM (y := m_X2_partOf) (pc := 56) dX2_partOf_56 rfl (fun n10 => ?_)
  exact sn_sub rfl (s_X2_partOf_l58 x0 x1 n8 (0 : Int64) n10)
def f_X2_partOf (p0 : (Option Nat)) (p1 : (Option Nat)) (p2 : Int32) : Mo Int32 :=
  mBd (mGetI 2 4 p0) (fun r1 => (if r1 ≥ (1 : Int32) then mBd (mGetI 2 3 p0) (fun r2 => mBd (mGetI 2 4 p0) (fun r3 => mRq (¬ r3 = 0) (f_X2_partOf_j23 p0 p1 p2 ((r2 - (1 : Int32)) / r3)))) else f_X2_partOf_j23 p0 p1 p2 (0 : Int32)))
set_option maxRecDepth 100000 in
theorem s_X2_partOf {cx : CX} (p0 : (Option Nat)) (p1 : (Option Nat)) (p2 : Int32) : Sn cx m_X2_partOf eI 0 [(0, vA p0), (1, vA p1), (2, vI p2)] [] (f_X2_partOf p0 p1 p2) := by
  refine sn_aload_n (y := m_X2_partOf) (pc := 0) dX2_partOf_0 rfl ?_
  refine sn_getI (y := m_X2_partOf) (pc := 1) ca_2 rfl fk_X2_25 (fun _ _ _ => rfl) dX2_partOf_1 (fun r1 => ?_)
  refine sn_iconst (y := m_X2_partOf) (pc := 4) dX2_partOf_4 kc_iconst_1 ?_
  refine sn_icmp_ge (y := m_X2_partOf) (pc := 5) (tgt := 12) dX2_partOf_5 (by decide) (fun _ => ?_) (fun _ => ?_)
  · refine sn_aload_n (y := m_X2_partOf) (pc := 12) dX2_partOf_12 rfl ?_
    refine sn_getI (y := m_X2_partOf) (pc := 13) ca_2 rfl fk_X2_21 (fun _ _ _ => rfl) dX2_partOf_13 (fun r2 => ?_)
    refine sn_iconst (y := m_X2_partOf) (pc := 16) dX2_partOf_16 kc_iconst_1 ?_
    refine sn_isub (y := m_X2_partOf) (pc := 17) dX2_partOf_17 ?_
    refine sn_aload_n (y := m_X2_partOf) (pc := 18) dX2_partOf_18 rfl ?_
    refine sn_getI (y := m_X2_partOf) (pc := 19) ca_2 rfl fk_X2_25 (fun _ _ _ => rfl) dX2_partOf_19 (fun r3 => ?_)
    refine sn_idiv (y := m_X2_partOf) (pc := 22) dX2_partOf_22 ?_
    exact sn_sub rfl (s_X2_partOf_j23 p0 p1 p2 ((r2 - (1 : Int32)) / r3))
  refine sn_iconst (y := m_X2_partOf) (pc := 8) dX2_partOf_8 kc_iconst_0 ?_
  refine sn_goto (y := m_X2_partOf) (pc := 9) (tgt := 23) dX2_partOf_9 (by decide) ?_
  exact sn_sub rfl (s_X2_partOf_j23 p0 p1 p2 (0 : Int32))
set_option maxRecDepth 100000 in
theorem c_X2_partOf (g : Gl) (p0 : (Option Nat)) (p1 : (Option Nat)) (p2 : Int32) : Cn g m_X2_partOf eI [vA p0, vA p1, vI p2] (mCk 2 p0 (f_X2_partOf p0 p1 p2)) := cn_of_sn (by decide +kernel) rfl (fun r => ⟨r, rfl⟩) rfl (fun _ _ => sn_ck (s_X2_partOf p0 p1 p2))
/-! X2_isPower -/
def f_X2_isPower (p0 : (Option Nat)) (p1 : Int32) (p2 : Int32) : Mo Int32 :=
  mBd (mCk 2 p0 (f_X2_logOf p0 p1)) (fun r1 => mBd (mGetI 2 3 p0) (fun r2 => mBd (f_X8_commonPart p2 (r2 - (1 : Int32))) (fun r3 => mBd (f_X6_mod (r1.toInt64) r3) (fun r4 => (if ¬ r4 = 0 then mRt (0 : Int32) else mRt (1 : Int32))))))
set_option maxRecDepth 100000 in
theorem s_X2_isPower {cx : CX} (p0 : (Option Nat)) (p1 : Int32) (p2 : Int32) : Sn cx m_X2_isPower eI 0 [(0, vA p0), (1, vI p1), (2, vI p2)] [] (f_X2_isPower p0 p1 p2) := by
  refine sn_aload_n (y := m_X2_isPower) (pc := 0) dX2_isPower_0 rfl ?_
  refine sn_iload_n (y := m_X2_isPower) (pc := 1) dX2_isPower_1 rfl ?_
  refine sn_invV (y := m_X2_isPower) (pc := 2) ca_2 (av := [vI p1]) (o := p0) (st := []) dX2_isPower_2 lk_X2_80 im_X2_logOf se_X2_logOf rfl rfl rfl rfl ⟨by decide, by decide⟩ (c_X2_logOf cx.1 p0 p1) (fun r1 => ?_)
  refine sn_i2l (y := m_X2_isPower) (pc := 5) dX2_isPower_5 ?_
  refine sn_iload_n (y := m_X2_isPower) (pc := 6) dX2_isPower_6 rfl ?_
  refine sn_aload_n (y := m_X2_isPower) (pc := 7) dX2_isPower_7 rfl ?_
  refine sn_getI (y := m_X2_isPower) (pc := 8) ca_2 rfl fk_X2_21 (fun _ _ _ => rfl) dX2_isPower_8 (fun r2 => ?_)
  refine sn_iconst (y := m_X2_isPower) (pc := 11) dX2_isPower_11 kc_iconst_1 ?_
  refine sn_isub (y := m_X2_isPower) (pc := 12) dX2_isPower_12 ?_
  refine sn_invS (y := m_X2_isPower) (pc := 13) (av := [vI p2, vI (r2 - (1 : Int32))]) (st := [vJ (r1.toInt64)]) dX2_isPower_13 lk_X2_52 sw_X8_commonPart rfl rfl rfl ⟨by decide, by decide⟩ (c_X8_commonPart cx.1 p2 (r2 - (1 : Int32))) (fun r3 => ?_)
  refine sn_invS (y := m_X2_isPower) (pc := 16) (av := [vJ (r1.toInt64), vI r3]) (st := []) dX2_isPower_16 lk_X2_38 sw_X6_mod rfl rfl rfl ⟨by decide, by decide⟩ (c_X6_mod cx.1 (r1.toInt64) r3) (fun r4 => ?_)
  refine sn_if_ne (y := m_X2_isPower) (pc := 19) (tgt := 26) dX2_isPower_19 (by decide) (fun _ => ?_) (fun _ => ?_)
  · refine sn_iconst (y := m_X2_isPower) (pc := 26) dX2_isPower_26 kc_iconst_0 ?_
    exact sn_zreturnC (by decide) rfl dX2_isPower_27
  refine sn_iconst (y := m_X2_isPower) (pc := 22) dX2_isPower_22 kc_iconst_1 ?_
  refine sn_goto (y := m_X2_isPower) (pc := 23) (tgt := 27) dX2_isPower_23 (by decide) ?_
  exact sn_zreturnC (by decide) rfl dX2_isPower_27
set_option maxRecDepth 100000 in
theorem c_X2_isPower (g : Gl) (p0 : (Option Nat)) (p1 : Int32) (p2 : Int32) : Cn g m_X2_isPower eI [vA p0, vI p1, vI p2] (mCk 2 p0 (f_X2_isPower p0 p1 p2)) := cn_of_sn (by decide +kernel) rfl (fun r => ⟨r, rfl⟩) rfl (fun _ _ => sn_ck (s_X2_isPower p0 p1 p2))
/-! X2_meetings -/
def f_X2_meetings_b5 (x0 : (Option Nat)) (x1 : Int32) (x2 : Int32) (k5 : Int32 → Int32 → Mo Int32) (x3 : Int32) (x4 : Int32) : Mo Int32 :=
  mBd (mGetI 2 3 x0) (fun r1 => (if x4 ≥ (r1 - (1 : Int32)) then mRt x3 else mBd (mCk 2 x0 (f_X2_logOf x0 x4)) (fun r2 => mBd (mGetI 2 4 x0) (fun r3 => mBd (f_X6_mod (r2.toInt64) r3) (fun r4 => (if ¬ r4 = x1 then k5 x3 (x4 + 1) else mBd (mCk 2 x0 (f_X2_logOf x0 (x4 + (1 : Int32)))) (fun r5 => mBd (mGetI 2 4 x0) (fun r6 => mBd (f_X6_mod (r5.toInt64) r6) (fun r7 => (if ¬ r7 = x2 then k5 x3 (x4 + 1) else k5 (x3 + 1) (x4 + 1)))))))))))
def f_X2_meetings_l5 (x0 : (Option Nat)) (x1 : Int32) (x2 : Int32) : Int32 → Int32 → Mo Int32 := lq2 (f_X2_meetings_b5 x0 x1 x2) fuel
set_option maxRecDepth 100000 in
theorem s_X2_meetings_b5 {cx : CX} (x0 : (Option Nat)) (x1 : Int32) (x2 : Int32) {k5 : Int32 → Int32 → Mo Int32} (hk5 : ∀ (z3 : Int32) (z4 : Int32), Sn cx m_X2_meetings eI 5 [(3, vI z3), (4, vI z4), (0, vA x0), (1, vI x1), (2, vI x2)] [] (k5 z3 z4)) (x3 : Int32) (x4 : Int32) : Sn cx m_X2_meetings eI 5 [(3, vI x3), (4, vI x4), (0, vA x0), (1, vI x1), (2, vI x2)] [] (f_X2_meetings_b5 x0 x1 x2 k5 x3 x4) := by
  refine sn_iload (y := m_X2_meetings) (pc := 5) dX2_meetings_5 rfl ?_
  refine sn_aload_n (y := m_X2_meetings) (pc := 7) dX2_meetings_7 rfl ?_
  refine sn_getI (y := m_X2_meetings) (pc := 8) ca_2 rfl fk_X2_21 (fun _ _ _ => rfl) dX2_meetings_8 (fun r1 => ?_)
  refine sn_iconst (y := m_X2_meetings) (pc := 11) dX2_meetings_11 kc_iconst_1 ?_
  refine sn_isub (y := m_X2_meetings) (pc := 12) dX2_meetings_12 ?_
  refine sn_icmp_ge (y := m_X2_meetings) (pc := 13) (tgt := 63) dX2_meetings_13 (by decide) (fun _ => ?_) (fun _ => ?_)
  · refine sn_iload_n (y := m_X2_meetings) (pc := 63) dX2_meetings_63 rfl ?_
    exact sn_ireturn rfl dX2_meetings_64
  refine sn_aload_n (y := m_X2_meetings) (pc := 16) dX2_meetings_16 rfl ?_
  refine sn_iload (y := m_X2_meetings) (pc := 17) dX2_meetings_17 rfl ?_
  refine sn_invV (y := m_X2_meetings) (pc := 19) ca_2 (av := [vI x4]) (o := x0) (st := []) dX2_meetings_19 lk_X2_80 im_X2_logOf se_X2_logOf rfl rfl rfl rfl ⟨by decide, by decide⟩ (c_X2_logOf cx.1 x0 x4) (fun r2 => ?_)
  refine sn_i2l (y := m_X2_meetings) (pc := 22) dX2_meetings_22 ?_
  refine sn_aload_n (y := m_X2_meetings) (pc := 23) dX2_meetings_23 rfl ?_
  refine sn_getI (y := m_X2_meetings) (pc := 24) ca_2 rfl fk_X2_25 (fun _ _ _ => rfl) dX2_meetings_24 (fun r3 => ?_)
  refine sn_invS (y := m_X2_meetings) (pc := 27) (av := [vJ (r2.toInt64), vI r3]) (st := []) dX2_meetings_27 lk_X2_38 sw_X6_mod rfl rfl rfl ⟨by decide, by decide⟩ (c_X6_mod cx.1 (r2.toInt64) r3) (fun r4 => ?_)
  refine sn_iload_n (y := m_X2_meetings) (pc := 30) dX2_meetings_30 rfl ?_
  refine sn_icmp_ne (y := m_X2_meetings) (pc := 31) (tgt := 57) dX2_meetings_31 (by decide) (fun _ => ?_) (fun _ => ?_)
  · refine sn_iinc (y := m_X2_meetings) (pc := 57) (v := x4 + 1) dX2_meetings_57 rfl (by rfl) rfl ?_
    refine sn_goto (y := m_X2_meetings) (pc := 60) (tgt := 5) dX2_meetings_60 (by decide) ?_
    exact sn_sub rfl (hk5 x3 (x4 + 1))
  refine sn_aload_n (y := m_X2_meetings) (pc := 34) dX2_meetings_34 rfl ?_
  refine sn_iload (y := m_X2_meetings) (pc := 35) dX2_meetings_35 rfl ?_
  refine sn_iconst (y := m_X2_meetings) (pc := 37) dX2_meetings_37 kc_iconst_1 ?_
  refine sn_iadd (y := m_X2_meetings) (pc := 38) dX2_meetings_38 ?_
  refine sn_invV (y := m_X2_meetings) (pc := 39) ca_2 (av := [vI (x4 + (1 : Int32))]) (o := x0) (st := []) dX2_meetings_39 lk_X2_80 im_X2_logOf se_X2_logOf rfl rfl rfl rfl ⟨by decide, by decide⟩ (c_X2_logOf cx.1 x0 (x4 + (1 : Int32))) (fun r5 => ?_)
  refine sn_i2l (y := m_X2_meetings) (pc := 42) dX2_meetings_42 ?_
  refine sn_aload_n (y := m_X2_meetings) (pc := 43) dX2_meetings_43 rfl ?_
  refine sn_getI (y := m_X2_meetings) (pc := 44) ca_2 rfl fk_X2_25 (fun _ _ _ => rfl) dX2_meetings_44 (fun r6 => ?_)
  refine sn_invS (y := m_X2_meetings) (pc := 47) (av := [vJ (r5.toInt64), vI r6]) (st := []) dX2_meetings_47 lk_X2_38 sw_X6_mod rfl rfl rfl ⟨by decide, by decide⟩ (c_X6_mod cx.1 (r5.toInt64) r6) (fun r7 => ?_)
  refine sn_iload_n (y := m_X2_meetings) (pc := 50) dX2_meetings_50 rfl ?_
  refine sn_icmp_ne (y := m_X2_meetings) (pc := 51) (tgt := 57) dX2_meetings_51 (by decide) (fun _ => ?_) (fun _ => ?_)
  · refine sn_iinc (y := m_X2_meetings) (pc := 57) (v := x4 + 1) dX2_meetings_57 rfl (by rfl) rfl ?_
    refine sn_goto (y := m_X2_meetings) (pc := 60) (tgt := 5) dX2_meetings_60 (by decide) ?_
    exact sn_sub rfl (hk5 x3 (x4 + 1))
  refine sn_iinc (y := m_X2_meetings) (pc := 54) (v := x3 + 1) dX2_meetings_54 rfl (by rfl) rfl ?_
  refine sn_iinc (y := m_X2_meetings) (pc := 57) (v := x4 + 1) dX2_meetings_57 rfl (by rfl) rfl ?_
  refine sn_goto (y := m_X2_meetings) (pc := 60) (tgt := 5) dX2_meetings_60 (by decide) ?_
  exact sn_sub rfl (hk5 (x3 + 1) (x4 + 1))
set_option maxRecDepth 100000 in
theorem s_X2_meetings_l5 {cx : CX} (x0 : (Option Nat)) (x1 : Int32) (x2 : Int32) (x3 : Int32) (x4 : Int32) : Sn cx m_X2_meetings eI 5 [(3, vI x3), (4, vI x4), (0, vA x0), (1, vI x1), (2, vI x2)] [] (f_X2_meetings_l5 x0 x1 x2 x3 x4) :=
  sn_lq2 (L := fun x3 x4 => [(3, vI x3), (4, vI x4), (0, vA x0), (1, vI x1), (2, vI x2)]) (fun k hk x3 x4 => s_X2_meetings_b5 x0 x1 x2 hk x3 x4) fuel x3 x4
def f_X2_meetings (p0 : (Option Nat)) (p1 : Int32) (p2 : Int32) : Mo Int32 :=
  f_X2_meetings_l5 p0 p1 p2 (0 : Int32) (1 : Int32)
set_option maxRecDepth 100000 in
theorem s_X2_meetings {cx : CX} (p0 : (Option Nat)) (p1 : Int32) (p2 : Int32) : Sn cx m_X2_meetings eI 0 [(0, vA p0), (1, vI p1), (2, vI p2)] [] (f_X2_meetings p0 p1 p2) := by
  refine sn_iconst (y := m_X2_meetings) (pc := 0) dX2_meetings_0 kc_iconst_0 ?_
  refine sn_istore_n (y := m_X2_meetings) (pc := 1) dX2_meetings_1 rfl ?_
  refine sn_iconst (y := m_X2_meetings) (pc := 2) dX2_meetings_2 kc_iconst_1 ?_
  refine sn_istore (y := m_X2_meetings) (pc := 3) dX2_meetings_3 rfl ?_
  exact sn_sub rfl (s_X2_meetings_l5 p0 p1 p2 (0 : Int32) (1 : Int32))
set_option maxRecDepth 100000 in
theorem c_X2_meetings (g : Gl) (p0 : (Option Nat)) (p1 : Int32) (p2 : Int32) : Cn g m_X2_meetings eI [vA p0, vI p1, vI p2] (mCk 2 p0 (f_X2_meetings p0 p1 p2)) := cn_of_sn (by decide +kernel) rfl (fun r => ⟨r, rfl⟩) rfl (fun _ _ => sn_ck (s_X2_meetings p0 p1 p2))
/-! X2_isOrderPower -/
def f_X2_isOrderPower (p0 : (Option Nat)) (p1 : Int32) : Mo Int32 :=
  mBd (mCk 2 p0 (f_X2_logOf p0 p1)) (fun r1 => mBd (mGetI 2 4 p0) (fun r2 => mBd (f_X6_mod (r1.toInt64) r2) (fun r3 => (if ¬ r3 = 0 then mRt (0 : Int32) else mRt (1 : Int32)))))
set_option maxRecDepth 100000 in
theorem s_X2_isOrderPower {cx : CX} (p0 : (Option Nat)) (p1 : Int32) : Sn cx m_X2_isOrderPower eI 0 [(0, vA p0), (1, vI p1)] [] (f_X2_isOrderPower p0 p1) := by
  refine sn_aload_n (y := m_X2_isOrderPower) (pc := 0) dX2_isOrderPower_0 rfl ?_
  refine sn_iload_n (y := m_X2_isOrderPower) (pc := 1) dX2_isOrderPower_1 rfl ?_
  refine sn_invV (y := m_X2_isOrderPower) (pc := 2) ca_2 (av := [vI p1]) (o := p0) (st := []) dX2_isOrderPower_2 lk_X2_80 im_X2_logOf se_X2_logOf rfl rfl rfl rfl ⟨by decide, by decide⟩ (c_X2_logOf cx.1 p0 p1) (fun r1 => ?_)
  refine sn_i2l (y := m_X2_isOrderPower) (pc := 5) dX2_isOrderPower_5 ?_
  refine sn_aload_n (y := m_X2_isOrderPower) (pc := 6) dX2_isOrderPower_6 rfl ?_
  refine sn_getI (y := m_X2_isOrderPower) (pc := 7) ca_2 rfl fk_X2_25 (fun _ _ _ => rfl) dX2_isOrderPower_7 (fun r2 => ?_)
  refine sn_invS (y := m_X2_isOrderPower) (pc := 10) (av := [vJ (r1.toInt64), vI r2]) (st := []) dX2_isOrderPower_10 lk_X2_38 sw_X6_mod rfl rfl rfl ⟨by decide, by decide⟩ (c_X6_mod cx.1 (r1.toInt64) r2) (fun r3 => ?_)
  refine sn_if_ne (y := m_X2_isOrderPower) (pc := 13) (tgt := 20) dX2_isOrderPower_13 (by decide) (fun _ => ?_) (fun _ => ?_)
  · refine sn_iconst (y := m_X2_isOrderPower) (pc := 20) dX2_isOrderPower_20 kc_iconst_0 ?_
    exact sn_zreturnC (by decide) rfl dX2_isOrderPower_21
  refine sn_iconst (y := m_X2_isOrderPower) (pc := 16) dX2_isOrderPower_16 kc_iconst_1 ?_
  refine sn_goto (y := m_X2_isOrderPower) (pc := 17) (tgt := 21) dX2_isOrderPower_17 (by decide) ?_
  exact sn_zreturnC (by decide) rfl dX2_isOrderPower_21
set_option maxRecDepth 100000 in
theorem c_X2_isOrderPower (g : Gl) (p0 : (Option Nat)) (p1 : Int32) : Cn g m_X2_isOrderPower eI [vA p0, vI p1] (mCk 2 p0 (f_X2_isOrderPower p0 p1)) := cn_of_sn (by decide +kernel) rfl (fun r => ⟨r, rfl⟩) rfl (fun _ _ => sn_ck (s_X2_isOrderPower p0 p1))
