/-! X3_read -/
def f_X3_read_b22 (x0 : (Option Nat)) (k22 : Int32 → Mo Int32) (x2 : Int32) : Mo Int32 :=
  (if x2 > (900 : Int32) then mRt (1 : Int32) else mBd (mCk 3 x0 (f_X3_readLine x0)) (fun r3 => (if ¬ r3 = 0 then mBd (mGetA 3 0 x0) (fun r4 => mBd (mCk 7 r4 (f_X9_atEnd r4)) (fun r5 => (if r5 = 0 then mBd (mGetA 3 0 x0) (fun r6 => mBd (mCk 7 r6 (f_X9_step r6)) (fun _ => k22 (x2 + 1))) else mBd (mGetA 3 5 x0) (fun r7 => mBd (mCk 0 r7 (f_X0_fieldsHeld r7)) (fun r8 => (if r8 ≤ 0 then mRt (6 : Int32) else mRt (0 : Int32))))))) else mBd (mGetI 3 11 x0) (fun r9 => mRt r9))))
def f_X3_read_l22 (x0 : (Option Nat)) : Int32 → Mo Int32 := lq1 (f_X3_read_b22 x0) fuel
set_option maxRecDepth 100000 in
theorem s_X3_read_b22 {cx : CX} (x0 : (Option Nat)) {k22 : Int32 → Mo Int32} (hk22 : ∀ (z2 : Int32), Sn cx m_X3_read eI 22 [(2, vI z2), (0, vA x0)] [] (k22 z2)) (x2 : Int32) : Sn cx m_X3_read eI 22 [(2, vI x2), (0, vA x0)] [] (f_X3_read_b22 x0 k22 x2) := by
  refine sn_iload_n (y := m_X3_read) (pc := 22) dX3_read_22 rfl ?_
  refine sn_sipush (y := m_X3_read) (pc := 23) dX3_read_23 kc_sipush_900 ?_
  refine sn_icmp_gt (y := m_X3_read) (pc := 26) (tgt := 81) dX3_read_26 (by decide) (fun _ => ?_) (fun _ => ?_)
  · refine sn_iconst (y := m_X3_read) (pc := 81) dX3_read_81 kc_iconst_1 ?_
    exact sn_ireturn rfl dX3_read_82
  refine sn_aload_n (y := m_X3_read) (pc := 29) dX3_read_29 rfl ?_
  refine sn_invV (y := m_X3_read) (pc := 30) ca_3 (av := []) (o := x0) (st := []) dX3_read_30 lk_X3_81 im_X3_readLine se_X3_readLine rfl rfl rfl rfl ⟨by decide, by decide⟩ (c_X3_readLine cx.1 x0) (fun r3 => ?_)
  refine sn_if_ne (y := m_X3_read) (pc := 33) (tgt := 41) dX3_read_33 (by decide) (fun _ => ?_) (fun _ => ?_)
  · refine sn_aload_n (y := m_X3_read) (pc := 41) dX3_read_41 rfl ?_
    refine sn_getA (y := m_X3_read) (pc := 42) ca_3 rfl fk_X3_12 (fun _ _ _ => rfl) dX3_read_42 (fun r4 => ?_)
    refine sn_invV (y := m_X3_read) (pc := 45) ca_7 (av := []) (o := r4) (st := []) dX3_read_45 lk_X3_85 im_X9_atEnd se_X9_atEnd rfl rfl rfl rfl ⟨by decide, by decide⟩ (c_X9_atEnd cx.1 r4) (fun r5 => ?_)
    refine sn_if_eq (y := m_X3_read) (pc := 48) (tgt := 68) dX3_read_48 (by decide) (fun _ => ?_) (fun _ => ?_)
    · refine sn_aload_n (y := m_X3_read) (pc := 68) dX3_read_68 rfl ?_
      refine sn_getA (y := m_X3_read) (pc := 69) ca_3 rfl fk_X3_12 (fun _ _ _ => rfl) dX3_read_69 (fun r6 => ?_)
      refine sn_invV (y := m_X3_read) (pc := 72) ca_7 (av := []) (o := r6) (st := []) dX3_read_72 lk_X3_92 im_X9_step se_X9_step rfl rfl rfl rfl ⟨by decide, by decide⟩ (c_X9_step cx.1 r6) (fun _ => ?_)
      refine sn_iinc (y := m_X3_read) (pc := 75) (v := x2 + 1) dX3_read_75 rfl (by rfl) rfl ?_
      refine sn_goto (y := m_X3_read) (pc := 78) (tgt := 22) dX3_read_78 (by decide) ?_
      exact sn_sub rfl (hk22 (x2 + 1))
    refine sn_aload_n (y := m_X3_read) (pc := 51) dX3_read_51 rfl ?_
    refine sn_getA (y := m_X3_read) (pc := 52) ca_3 rfl fk_X3_39 (fun _ _ _ => rfl) dX3_read_52 (fun r7 => ?_)
    refine sn_invV (y := m_X3_read) (pc := 55) ca_0 (av := []) (o := r7) (st := []) dX3_read_55 lk_X3_88 im_X0_fieldsHeld se_X0_fieldsHeld rfl rfl rfl rfl ⟨by decide, by decide⟩ (c_X0_fieldsHeld cx.1 r7) (fun r8 => ?_)
    refine sn_if_le (y := m_X3_read) (pc := 58) (tgt := 65) dX3_read_58 (by decide) (fun _ => ?_) (fun _ => ?_)
    · refine sn_bipush (y := m_X3_read) (pc := 65) dX3_read_65 kc_bipush_6 ?_
      exact sn_ireturn rfl dX3_read_67
    refine sn_iconst (y := m_X3_read) (pc := 61) dX3_read_61 kc_iconst_0 ?_
    refine sn_goto (y := m_X3_read) (pc := 62) (tgt := 67) dX3_read_62 (by decide) ?_
    exact sn_ireturn rfl dX3_read_67
  refine sn_aload_n (y := m_X3_read) (pc := 36) dX3_read_36 rfl ?_
  refine sn_getI (y := m_X3_read) (pc := 37) ca_3 rfl fk_X3_64 (fun _ _ _ => rfl) dX3_read_37 (fun r9 => ?_)
  exact sn_ireturn rfl dX3_read_40
set_option maxRecDepth 100000 in
theorem s_X3_read_l22 {cx : CX} (x0 : (Option Nat)) (x2 : Int32) : Sn cx m_X3_read eI 22 [(2, vI x2), (0, vA x0)] [] (f_X3_read_l22 x0 x2) :=
  sn_lq1 (L := fun x2 => [(2, vI x2), (0, vA x0)]) (fun k hk x2 => s_X3_read_b22 x0 hk x2) fuel x2
def f_X3_read (p0 : (Option Nat)) (p1 : Int32) : Mo Int32 :=
  mBd (mPutI 3 11 p0 (0 : Int32)) (fun _ => mBd (mGetA 3 5 p0) (fun r1 => mBd (mCk 0 r1 (f_X0_empty r1)) (fun _ => mBd (mGetA 3 0 p0) (fun r2 => mBd (mCk 7 r2 (f_X9_split r2 p1)) (fun _ => f_X3_read_l22 p0 (0 : Int32))))))
set_option maxRecDepth 100000 in
theorem s_X3_read {cx : CX} (p0 : (Option Nat)) (p1 : Int32) : Sn cx m_X3_read eI 0 [(0, vA p0), (1, vI p1)] [] (f_X3_read p0 p1) := by
  refine sn_aload_n (y := m_X3_read) (pc := 0) dX3_read_0 rfl ?_
  refine sn_iconst (y := m_X3_read) (pc := 1) dX3_read_1 kc_iconst_0 ?_
  refine sn_putI (y := m_X3_read) (pc := 2) ca_3 rfl fk_X3_64 (Or.inl rfl) rfl dX3_read_2 ?_
  refine sn_aload_n (y := m_X3_read) (pc := 5) dX3_read_5 rfl ?_
  refine sn_getA (y := m_X3_read) (pc := 6) ca_3 rfl fk_X3_39 (fun _ _ _ => rfl) dX3_read_6 (fun r1 => ?_)
  refine sn_invV (y := m_X3_read) (pc := 9) ca_0 (av := []) (o := r1) (st := []) dX3_read_9 lk_X3_74 im_X0_empty se_X0_empty rfl rfl rfl rfl ⟨by decide, by decide⟩ (c_X0_empty cx.1 r1) (fun _ => ?_)
  refine sn_aload_n (y := m_X3_read) (pc := 12) dX3_read_12 rfl ?_
  refine sn_getA (y := m_X3_read) (pc := 13) ca_3 rfl fk_X3_12 (fun _ _ _ => rfl) dX3_read_13 (fun r2 => ?_)
  refine sn_iload_n (y := m_X3_read) (pc := 16) dX3_read_16 rfl ?_
  refine sn_invV (y := m_X3_read) (pc := 17) ca_7 (av := [vI p1]) (o := r2) (st := []) dX3_read_17 lk_X3_77 im_X9_split se_X9_split rfl rfl rfl rfl ⟨by decide, by decide⟩ (c_X9_split cx.1 r2 p1) (fun _ => ?_)
  refine sn_iconst (y := m_X3_read) (pc := 20) dX3_read_20 kc_iconst_0 ?_
  refine sn_istore_n (y := m_X3_read) (pc := 21) dX3_read_21 rfl ?_
  exact sn_sub rfl (s_X3_read_l22 p0 (0 : Int32))
set_option maxRecDepth 100000 in
theorem c_X3_read (g : Gl) (p0 : (Option Nat)) (p1 : Int32) : Cn g m_X3_read eI [vA p0, vI p1] (mCk 3 p0 (f_X3_read p0 p1)) := cn_of_sn (by decide +kernel) rfl (fun r => ⟨r, rfl⟩) rfl (fun _ _ => sn_ck (s_X3_read p0 p1))
/-! X3_faultPlace -/
def f_X3_faultPlace (p0 : (Option Nat)) : Mo Int32 :=
  mBd (mGetI 3 11 p0) (fun r1 => (if ¬ r1 = (7 : Int32) then mBd (mGetA 3 0 p0) (fun r2 => mBd (mCk 7 r2 (f_X9_placeNow r2)) (fun r3 => mRt r3)) else mBd (mGetI 3 12 p0) (fun r4 => mRt r4)))
set_option maxRecDepth 100000 in
theorem s_X3_faultPlace {cx : CX} (p0 : (Option Nat)) : Sn cx m_X3_faultPlace eI 0 [(0, vA p0)] [] (f_X3_faultPlace p0) := by
  refine sn_aload_n (y := m_X3_faultPlace) (pc := 0) dX3_faultPlace_0 rfl ?_
  refine sn_getI (y := m_X3_faultPlace) (pc := 1) ca_3 rfl fk_X3_64 (fun _ _ _ => rfl) dX3_faultPlace_1 (fun r1 => ?_)
  refine sn_bipush (y := m_X3_faultPlace) (pc := 4) dX3_faultPlace_4 kc_bipush_7 ?_
  refine sn_icmp_ne (y := m_X3_faultPlace) (pc := 6) (tgt := 16) dX3_faultPlace_6 (by decide) (fun _ => ?_) (fun _ => ?_)
  · refine sn_aload_n (y := m_X3_faultPlace) (pc := 16) dX3_faultPlace_16 rfl ?_
    refine sn_getA (y := m_X3_faultPlace) (pc := 17) ca_3 rfl fk_X3_12 (fun _ _ _ => rfl) dX3_faultPlace_17 (fun r2 => ?_)
    refine sn_invV (y := m_X3_faultPlace) (pc := 20) ca_7 (av := []) (o := r2) (st := []) dX3_faultPlace_20 lk_X3_95 im_X9_placeNow se_X9_placeNow rfl rfl rfl rfl ⟨by decide, by decide⟩ (c_X9_placeNow cx.1 r2) (fun r3 => ?_)
    exact sn_ireturn rfl dX3_faultPlace_23
  refine sn_aload_n (y := m_X3_faultPlace) (pc := 9) dX3_faultPlace_9 rfl ?_
  refine sn_getI (y := m_X3_faultPlace) (pc := 10) ca_3 rfl fk_X3_67 (fun _ _ _ => rfl) dX3_faultPlace_10 (fun r4 => ?_)
  refine sn_goto (y := m_X3_faultPlace) (pc := 13) (tgt := 23) dX3_faultPlace_13 (by decide) ?_
  exact sn_ireturn rfl dX3_faultPlace_23
set_option maxRecDepth 100000 in
theorem c_X3_faultPlace (g : Gl) (p0 : (Option Nat)) : Cn g m_X3_faultPlace eI [vA p0] (mCk 3 p0 (f_X3_faultPlace p0)) := cn_of_sn (by decide +kernel) rfl (fun r => ⟨r, rfl⟩) rfl (fun _ _ => sn_ck (s_X3_faultPlace p0))
/-! X3_exchange -/
def f_X3_exchange (p0 : (Option Nat)) (p1 : (Option Nat)) : Mo (Option Nat) :=
  mBd (mGetA 3 5 p0) (fun r1 => (if p1 = none then mRt r1 else mBd (mPutA 3 5 p0 p1) (fun _ => mRt r1)))
set_option maxRecDepth 100000 in
theorem s_X3_exchange {cx : CX} (p0 : (Option Nat)) (p1 : (Option Nat)) : Sn cx m_X3_exchange eA 0 [(0, vA p0), (1, vA p1)] [] (f_X3_exchange p0 p1) := by
  refine sn_aload_n (y := m_X3_exchange) (pc := 0) dX3_exchange_0 rfl ?_
  refine sn_getA (y := m_X3_exchange) (pc := 1) ca_3 rfl fk_X3_39 (fun _ _ _ => rfl) dX3_exchange_1 (fun r1 => ?_)
  refine sn_astore_n (y := m_X3_exchange) (pc := 4) dX3_exchange_4 rfl ?_
  refine sn_aload_n (y := m_X3_exchange) (pc := 5) dX3_exchange_5 rfl ?_
  refine sn_ifnull (y := m_X3_exchange) (pc := 6) (tgt := 14) dX3_exchange_6 (by decide) ?_ ?_
  · refine sn_aload_n (y := m_X3_exchange) (pc := 14) dX3_exchange_14 rfl ?_
    exact sn_areturn (Or.inl ⟨_, rfl⟩) dX3_exchange_15
  refine sn_aload_n (y := m_X3_exchange) (pc := 9) dX3_exchange_9 rfl ?_
  refine sn_aload_n (y := m_X3_exchange) (pc := 10) dX3_exchange_10 rfl ?_
  refine sn_putA (y := m_X3_exchange) (pc := 11) ca_3 rfl fk_X3_39 (Or.inl rfl) rfl dX3_exchange_11 ?_
  refine sn_aload_n (y := m_X3_exchange) (pc := 14) dX3_exchange_14 rfl ?_
  exact sn_areturn (Or.inl ⟨_, rfl⟩) dX3_exchange_15
set_option maxRecDepth 100000 in
theorem c_X3_exchange (g : Gl) (p0 : (Option Nat)) (p1 : (Option Nat)) : Cn g m_X3_exchange eA [vA p0, vA p1] (mCk 3 p0 (f_X3_exchange p0 p1)) := cn_of_sn (by decide +kernel) rfl (fun r => ⟨r, rfl⟩) rfl (fun _ _ => sn_ck (s_X3_exchange p0 p1))
/-! X4_init -/
def f_X4_init (p0 : (Option Nat)) : Mo Unit :=
  mCk 4 p0 (mBd (mNewA 2 (861 : Int32)) (fun r1 => mBd (mPutA 4 0 p0 r1) (fun _ => mBd (mNewA 2 (164 : Int32)) (fun r2 => mBd (mPutA 4 1 p0 r2) (fun _ => mBd (mPutI 4 2 p0 (0 : Int32)) (fun _ => mBd (mPutI 4 3 p0 (0 : Int32)) (fun _ => mBd (mPutI 4 4 p0 (0 : Int32)) (fun _ => mBd (mPutI 4 5 p0 (0 : Int32)) (fun _ => mRt ())))))))))
set_option maxRecDepth 100000 in
theorem s_X4_init {cx : CX} (p0 : (Option Nat)) : Sn cx m_X4_init eV 0 [(0, vA p0)] [] (f_X4_init p0) := by
  refine sn_aload_n (y := m_X4_init) (pc := 0) dX4_init_0 rfl ?_
  refine sn_objInit (y := m_X4_init) (pc := 1) oi_X4_5 oi_1 oi_2 dX4_init_1 rfl ⟨by decide, by decide⟩ ?_
  refine sn_aload_n (y := m_X4_init) (pc := 4) dX4_init_4 rfl ?_
  refine sn_sipush (y := m_X4_init) (pc := 5) dX4_init_5 kc_sipush_861 ?_
  refine sn_newarray (y := m_X4_init) (pc := 8) (t := 2) rfl (Or.inr (Or.inl rfl)) ac_long dX4_init_8 (fun r1 => ?_)
  refine sn_putA (y := m_X4_init) (pc := 10) ca_4 rfl fk_X4_11 (Or.inr ⟨rfl, rfl, rfl, fkm_X4_11⟩) rfl dX4_init_10 ?_
  refine sn_aload_n (y := m_X4_init) (pc := 13) dX4_init_13 rfl ?_
  refine sn_sipush (y := m_X4_init) (pc := 14) dX4_init_14 kc_sipush_164 ?_
  refine sn_newarray (y := m_X4_init) (pc := 17) (t := 2) rfl (Or.inr (Or.inl rfl)) ac_long dX4_init_17 (fun r2 => ?_)
  refine sn_putA (y := m_X4_init) (pc := 19) ca_4 rfl fk_X4_15 (Or.inr ⟨rfl, rfl, rfl, fkm_X4_15⟩) rfl dX4_init_19 ?_
  refine sn_aload_n (y := m_X4_init) (pc := 22) dX4_init_22 rfl ?_
  refine sn_iconst (y := m_X4_init) (pc := 23) dX4_init_23 kc_iconst_0 ?_
  refine sn_putI (y := m_X4_init) (pc := 24) ca_4 rfl fk_X4_18 (Or.inl rfl) rfl dX4_init_24 ?_
  refine sn_aload_n (y := m_X4_init) (pc := 27) dX4_init_27 rfl ?_
  refine sn_iconst (y := m_X4_init) (pc := 28) dX4_init_28 kc_iconst_0 ?_
  refine sn_putI (y := m_X4_init) (pc := 29) ca_4 rfl fk_X4_22 (Or.inl rfl) rfl dX4_init_29 ?_
  refine sn_aload_n (y := m_X4_init) (pc := 32) dX4_init_32 rfl ?_
  refine sn_iconst (y := m_X4_init) (pc := 33) dX4_init_33 kc_iconst_0 ?_
  refine sn_putI (y := m_X4_init) (pc := 34) ca_4 rfl fk_X4_25 (Or.inl rfl) rfl dX4_init_34 ?_
  refine sn_aload_n (y := m_X4_init) (pc := 37) dX4_init_37 rfl ?_
  refine sn_iconst (y := m_X4_init) (pc := 38) dX4_init_38 kc_iconst_0 ?_
  refine sn_putI (y := m_X4_init) (pc := 39) ca_4 rfl fk_X4_28 (Or.inl rfl) rfl dX4_init_39 ?_
  exact sn_return rfl dX4_init_42
set_option maxRecDepth 100000 in
theorem c_X4_init (g : Gl) (p0 : (Option Nat)) : Cn g m_X4_init eV [vA p0] (mCk 4 p0 (f_X4_init p0)) := cn_of_sn (by decide +kernel) rfl (fun _ => rfl) rfl (fun _ _ => sn_ck (s_X4_init p0))
/-! X4_clearTo -/
def f_X4_clearTo_b2 (x0 : (Option Nat)) (x1 : Int32) (k2 : Int32 → Mo Unit) (x2 : Int32) : Mo Unit :=
  (if x2 ≥ (41 : Int32) then mBd (mGetA 4 0 x0) (fun r1 => mBd (mGetI 4 2 x0) (fun r2 => mBd (f_X6_put r1 (r2 * (41 : Int32)) (x1.toInt64)) (fun _ => mRt ()))) else mBd (mGetA 4 0 x0) (fun r3 => mBd (mGetI 4 2 x0) (fun r4 => mBd (f_X6_put r3 ((r4 * (41 : Int32)) + x2) (0 : Int64)) (fun _ => k2 (x2 + 1)))))
def f_X4_clearTo_l2 (x0 : (Option Nat)) (x1 : Int32) : Int32 → Mo Unit := lq1 (f_X4_clearTo_b2 x0 x1) fuel
set_option maxRecDepth 100000 in
theorem s_X4_clearTo_b2 {cx : CX} (x0 : (Option Nat)) (x1 : Int32) {k2 : Int32 → Mo Unit} (hk2 : ∀ (z2 : Int32), Sn cx m_X4_clearTo eV 2 [(2, vI z2), (0, vA x0), (1, vI x1)] [] (k2 z2)) (x2 : Int32) : Sn cx m_X4_clearTo eV 2 [(2, vI x2), (0, vA x0), (1, vI x1)] [] (f_X4_clearTo_b2 x0 x1 k2 x2) := by
  refine sn_iload_n (y := m_X4_clearTo) (pc := 2) dX4_clearTo_2 rfl ?_
  refine sn_bipush (y := m_X4_clearTo) (pc := 3) dX4_clearTo_3 kc_bipush_41 ?_
  refine sn_icmp_ge (y := m_X4_clearTo) (pc := 5) (tgt := 31) dX4_clearTo_5 (by decide) (fun _ => ?_) (fun _ => ?_)
  · refine sn_aload_n (y := m_X4_clearTo) (pc := 31) dX4_clearTo_31 rfl ?_
    refine sn_getA (y := m_X4_clearTo) (pc := 32) ca_4 rfl fk_X4_11 (fun _ _ _ => rfl) dX4_clearTo_32 (fun r1 => ?_)
    refine sn_aload_n (y := m_X4_clearTo) (pc := 35) dX4_clearTo_35 rfl ?_
    refine sn_getI (y := m_X4_clearTo) (pc := 36) ca_4 rfl fk_X4_18 (fun _ _ _ => rfl) dX4_clearTo_36 (fun r2 => ?_)
    refine sn_bipush (y := m_X4_clearTo) (pc := 39) dX4_clearTo_39 kc_bipush_41 ?_
    refine sn_imul (y := m_X4_clearTo) (pc := 41) dX4_clearTo_41 ?_
    refine sn_iload_n (y := m_X4_clearTo) (pc := 42) dX4_clearTo_42 rfl ?_
    refine sn_i2l (y := m_X4_clearTo) (pc := 43) dX4_clearTo_43 ?_
    refine sn_invS (y := m_X4_clearTo) (pc := 44) (av := [vA r1, vI (r2 * (41 : Int32)), vJ (x1.toInt64)]) (st := []) dX4_clearTo_44 lk_X4_41 sw_X6_put rfl rfl rfl ⟨by decide, by decide⟩ (c_X6_put cx.1 r1 (r2 * (41 : Int32)) (x1.toInt64)) (fun _ => ?_)
    exact sn_return rfl dX4_clearTo_47
  refine sn_aload_n (y := m_X4_clearTo) (pc := 8) dX4_clearTo_8 rfl ?_
  refine sn_getA (y := m_X4_clearTo) (pc := 9) ca_4 rfl fk_X4_11 (fun _ _ _ => rfl) dX4_clearTo_9 (fun r3 => ?_)
  refine sn_aload_n (y := m_X4_clearTo) (pc := 12) dX4_clearTo_12 rfl ?_
  refine sn_getI (y := m_X4_clearTo) (pc := 13) ca_4 rfl fk_X4_18 (fun _ _ _ => rfl) dX4_clearTo_13 (fun r4 => ?_)
  refine sn_bipush (y := m_X4_clearTo) (pc := 16) dX4_clearTo_16 kc_bipush_41 ?_
  refine sn_imul (y := m_X4_clearTo) (pc := 18) dX4_clearTo_18 ?_
  refine sn_iload_n (y := m_X4_clearTo) (pc := 19) dX4_clearTo_19 rfl ?_
  refine sn_iadd (y := m_X4_clearTo) (pc := 20) dX4_clearTo_20 ?_
  refine sn_lconst (y := m_X4_clearTo) (pc := 21) dX4_clearTo_21 kc_lconst_0 ?_
  refine sn_invS (y := m_X4_clearTo) (pc := 22) (av := [vA r3, vI ((r4 * (41 : Int32)) + x2), vJ (0 : Int64)]) (st := []) dX4_clearTo_22 lk_X4_41 sw_X6_put rfl rfl rfl ⟨by decide, by decide⟩ (c_X6_put cx.1 r3 ((r4 * (41 : Int32)) + x2) (0 : Int64)) (fun _ => ?_)
  refine sn_iinc (y := m_X4_clearTo) (pc := 25) (v := x2 + 1) dX4_clearTo_25 rfl (by rfl) rfl ?_
  refine sn_goto (y := m_X4_clearTo) (pc := 28) (tgt := 2) dX4_clearTo_28 (by decide) ?_
  exact sn_sub rfl (hk2 (x2 + 1))
set_option maxRecDepth 100000 in
theorem s_X4_clearTo_l2 {cx : CX} (x0 : (Option Nat)) (x1 : Int32) (x2 : Int32) : Sn cx m_X4_clearTo eV 2 [(2, vI x2), (0, vA x0), (1, vI x1)] [] (f_X4_clearTo_l2 x0 x1 x2) :=
  sn_lq1 (L := fun x2 => [(2, vI x2), (0, vA x0), (1, vI x1)]) (fun k hk x2 => s_X4_clearTo_b2 x0 x1 hk x2) fuel x2
def f_X4_clearTo (p0 : (Option Nat)) (p1 : Int32) : Mo Unit :=
  f_X4_clearTo_l2 p0 p1 (0 : Int32)
set_option maxRecDepth 100000 in
theorem s_X4_clearTo {cx : CX} (p0 : (Option Nat)) (p1 : Int32) : Sn cx m_X4_clearTo eV 0 [(0, vA p0), (1, vI p1)] [] (f_X4_clearTo p0 p1) := by
  refine sn_iconst (y := m_X4_clearTo) (pc := 0) dX4_clearTo_0 kc_iconst_0 ?_
  refine sn_istore_n (y := m_X4_clearTo) (pc := 1) dX4_clearTo_1 rfl ?_
  exact sn_sub rfl (s_X4_clearTo_l2 p0 p1 (0 : Int32))
set_option maxRecDepth 100000 in
theorem c_X4_clearTo (g : Gl) (p0 : (Option Nat)) (p1 : Int32) : Cn g m_X4_clearTo eV [vA p0, vI p1] (mCk 4 p0 (f_X4_clearTo p0 p1)) := cn_of_sn (by decide +kernel) rfl (fun _ => rfl) rfl (fun _ _ => sn_ck (s_X4_clearTo p0 p1))
/-! X4_restart -/
def f_X4_restart (p0 : (Option Nat)) : Mo Unit :=
  mBd (mPutI 4 2 p0 (0 : Int32)) (fun _ => mBd (mPutI 4 3 p0 (0 : Int32)) (fun _ => mBd (mPutI 4 4 p0 (0 : Int32)) (fun _ => mBd (mPutI 4 5 p0 (0 : Int32)) (fun _ => mBd (mCk 4 p0 (f_X4_clearTo p0 (0 : Int32))) (fun _ => mRt ())))))
set_option maxRecDepth 100000 in
theorem s_X4_restart {cx : CX} (p0 : (Option Nat)) : Sn cx m_X4_restart eV 0 [(0, vA p0)] [] (f_X4_restart p0) := by
  refine sn_aload_n (y := m_X4_restart) (pc := 0) dX4_restart_0 rfl ?_
  refine sn_iconst (y := m_X4_restart) (pc := 1) dX4_restart_1 kc_iconst_0 ?_
  refine sn_putI (y := m_X4_restart) (pc := 2) ca_4 rfl fk_X4_18 (Or.inl rfl) rfl dX4_restart_2 ?_
  refine sn_aload_n (y := m_X4_restart) (pc := 5) dX4_restart_5 rfl ?_
  refine sn_iconst (y := m_X4_restart) (pc := 6) dX4_restart_6 kc_iconst_0 ?_
  refine sn_putI (y := m_X4_restart) (pc := 7) ca_4 rfl fk_X4_22 (Or.inl rfl) rfl dX4_restart_7 ?_
  refine sn_aload_n (y := m_X4_restart) (pc := 10) dX4_restart_10 rfl ?_
  refine sn_iconst (y := m_X4_restart) (pc := 11) dX4_restart_11 kc_iconst_0 ?_
  refine sn_putI (y := m_X4_restart) (pc := 12) ca_4 rfl fk_X4_25 (Or.inl rfl) rfl dX4_restart_12 ?_
  refine sn_aload_n (y := m_X4_restart) (pc := 15) dX4_restart_15 rfl ?_
  refine sn_iconst (y := m_X4_restart) (pc := 16) dX4_restart_16 kc_iconst_0 ?_
  refine sn_putI (y := m_X4_restart) (pc := 17) ca_4 rfl fk_X4_28 (Or.inl rfl) rfl dX4_restart_17 ?_
  refine sn_aload_n (y := m_X4_restart) (pc := 20) dX4_restart_20 rfl ?_
  refine sn_iconst (y := m_X4_restart) (pc := 21) dX4_restart_21 kc_iconst_0 ?_
  refine sn_invV (y := m_X4_restart) (pc := 22) ca_4 (av := [vI (0 : Int32)]) (o := p0) (st := []) dX4_restart_22 lk_X4_31 im_X4_clearTo se_X4_clearTo rfl rfl rfl rfl ⟨by decide, by decide⟩ (c_X4_clearTo cx.1 p0 (0 : Int32)) (fun _ => ?_)
  exact sn_return rfl dX4_restart_25
set_option maxRecDepth 100000 in
theorem c_X4_restart (g : Gl) (p0 : (Option Nat)) : Cn g m_X4_restart eV [vA p0] (mCk 4 p0 (f_X4_restart p0)) := cn_of_sn (by decide +kernel) rfl (fun _ => rfl) rfl (fun _ _ => sn_ck (s_X4_restart p0))
/-! X4_has -/
def f_X4_has (p0 : (Option Nat)) (p1 : Int32) : Mo Int32 :=
  (if p1 < 0 then mRt (0 : Int32) else (if p1 ≥ (4 : Int32) then mRt (0 : Int32) else mRt (1 : Int32)))
set_option maxRecDepth 100000 in
theorem s_X4_has {cx : CX} (p0 : (Option Nat)) (p1 : Int32) : Sn cx m_X4_has eI 0 [(0, vA p0), (1, vI p1)] [] (f_X4_has p0 p1) := by
  refine sn_iload_n (y := m_X4_has) (pc := 0) dX4_has_0 rfl ?_
  refine sn_if_lt (y := m_X4_has) (pc := 1) (tgt := 13) dX4_has_1 (by decide) (fun _ => ?_) (fun _ => ?_)
  · refine sn_iconst (y := m_X4_has) (pc := 13) dX4_has_13 kc_iconst_0 ?_
    exact sn_zreturnC (by decide) rfl dX4_has_14
  refine sn_iload_n (y := m_X4_has) (pc := 4) dX4_has_4 rfl ?_
  refine sn_iconst (y := m_X4_has) (pc := 5) dX4_has_5 kc_iconst_4 ?_
  refine sn_icmp_ge (y := m_X4_has) (pc := 6) (tgt := 13) dX4_has_6 (by decide) (fun _ => ?_) (fun _ => ?_)
  · refine sn_iconst (y := m_X4_has) (pc := 13) dX4_has_13 kc_iconst_0 ?_
    exact sn_zreturnC (by decide) rfl dX4_has_14
  refine sn_iconst (y := m_X4_has) (pc := 9) dX4_has_9 kc_iconst_1 ?_
  refine sn_goto (y := m_X4_has) (pc := 10) (tgt := 14) dX4_has_10 (by decide) ?_
  exact sn_zreturnC (by decide) rfl dX4_has_14
set_option maxRecDepth 100000 in
theorem c_X4_has (g : Gl) (p0 : (Option Nat)) (p1 : Int32) : Cn g m_X4_has eI [vA p0, vI p1] (mCk 4 p0 (f_X4_has p0 p1)) := cn_of_sn (by decide +kernel) rfl (fun r => ⟨r, rfl⟩) rfl (fun _ _ => sn_ck (s_X4_has p0 p1))
/-! X4_fieldNow -/
def f_X4_fieldNow (p0 : (Option Nat)) : Mo Int32 :=
  mBd (mGetA 4 0 p0) (fun r1 => mBd (mGetI 4 2 p0) (fun r2 => mBd (f_X6_at r1 (r2 * (41 : Int32))) (fun r3 => mRt (r3.toInt32))))
set_option maxRecDepth 100000 in
theorem s_X4_fieldNow {cx : CX} (p0 : (Option Nat)) : Sn cx m_X4_fieldNow eI 0 [(0, vA p0)] [] (f_X4_fieldNow p0) := by
  refine sn_aload_n (y := m_X4_fieldNow) (pc := 0) dX4_fieldNow_0 rfl ?_
  refine sn_getA (y := m_X4_fieldNow) (pc := 1) ca_4 rfl fk_X4_11 (fun _ _ _ => rfl) dX4_fieldNow_1 (fun r1 => ?_)
  refine sn_aload_n (y := m_X4_fieldNow) (pc := 4) dX4_fieldNow_4 rfl ?_
  refine sn_getI (y := m_X4_fieldNow) (pc := 5) ca_4 rfl fk_X4_18 (fun _ _ _ => rfl) dX4_fieldNow_5 (fun r2 => ?_)
  refine sn_bipush (y := m_X4_fieldNow) (pc := 8) dX4_fieldNow_8 kc_bipush_41 ?_
  refine sn_imul (y := m_X4_fieldNow) (pc := 10) dX4_fieldNow_10 ?_
  refine sn_invS (y := m_X4_fieldNow) (pc := 11) (av := [vA r1, vI (r2 * (41 : Int32))]) (st := []) dX4_fieldNow_11 lk_X4_35 sw_X6_at rfl rfl rfl ⟨by decide, by decide⟩ (c_X6_at cx.1 r1 (r2 * (41 : Int32))) (fun r3 => ?_)
  refine sn_l2i (y := m_X4_fieldNow) (pc := 14) dX4_fieldNow_14 ?_
  exact sn_ireturn rfl dX4_fieldNow_15
set_option maxRecDepth 100000 in
theorem c_X4_fieldNow (g : Gl) (p0 : (Option Nat)) : Cn g m_X4_fieldNow eI [vA p0] (mCk 4 p0 (f_X4_fieldNow p0)) := cn_of_sn (by decide +kernel) rfl (fun r => ⟨r, rfl⟩) rfl (fun _ _ => sn_ck (s_X4_fieldNow p0))
/-! X4_actsToUndo -/
def f_X4_actsToUndo (p0 : (Option Nat)) : Mo Int32 :=
  mBd (mGetI 4 3 p0) (fun r1 => mRt r1)
set_option maxRecDepth 100000 in
theorem s_X4_actsToUndo {cx : CX} (p0 : (Option Nat)) : Sn cx m_X4_actsToUndo eI 0 [(0, vA p0)] [] (f_X4_actsToUndo p0) := by
  refine sn_aload_n (y := m_X4_actsToUndo) (pc := 0) dX4_actsToUndo_0 rfl ?_
  refine sn_getI (y := m_X4_actsToUndo) (pc := 1) ca_4 rfl fk_X4_22 (fun _ _ _ => rfl) dX4_actsToUndo_1 (fun r1 => ?_)
  exact sn_ireturn rfl dX4_actsToUndo_4
set_option maxRecDepth 100000 in
theorem c_X4_actsToUndo (g : Gl) (p0 : (Option Nat)) : Cn g m_X4_actsToUndo eI [vA p0] (mCk 4 p0 (f_X4_actsToUndo p0)) := cn_of_sn (by decide +kernel) rfl (fun r => ⟨r, rfl⟩) rfl (fun _ _ => sn_ck (s_X4_actsToUndo p0))
/-! X4_actsToRedo -/
def f_X4_actsToRedo (p0 : (Option Nat)) : Mo Int32 :=
  mBd (mGetI 4 4 p0) (fun r1 => mRt r1)
set_option maxRecDepth 100000 in
theorem s_X4_actsToRedo {cx : CX} (p0 : (Option Nat)) : Sn cx m_X4_actsToRedo eI 0 [(0, vA p0)] [] (f_X4_actsToRedo p0) := by
  refine sn_aload_n (y := m_X4_actsToRedo) (pc := 0) dX4_actsToRedo_0 rfl ?_
  refine sn_getI (y := m_X4_actsToRedo) (pc := 1) ca_4 rfl fk_X4_25 (fun _ _ _ => rfl) dX4_actsToRedo_1 (fun r1 => ?_)
  exact sn_ireturn rfl dX4_actsToRedo_4
set_option maxRecDepth 100000 in
theorem c_X4_actsToRedo (g : Gl) (p0 : (Option Nat)) : Cn g m_X4_actsToRedo eI [vA p0] (mCk 4 p0 (f_X4_actsToRedo p0)) := cn_of_sn (by decide +kernel) rfl (fun r => ⟨r, rfl⟩) rfl (fun _ _ => sn_ck (s_X4_actsToRedo p0))
/-! X4_imagesHeld -/
def f_X4_imagesHeld (p0 : (Option Nat)) : Mo Int32 :=
  mBd (mGetI 4 5 p0) (fun r1 => mRt r1)
set_option maxRecDepth 100000 in
theorem s_X4_imagesHeld {cx : CX} (p0 : (Option Nat)) : Sn cx m_X4_imagesHeld eI 0 [(0, vA p0)] [] (f_X4_imagesHeld p0) := by
  refine sn_aload_n (y := m_X4_imagesHeld) (pc := 0) dX4_imagesHeld_0 rfl ?_
  refine sn_getI (y := m_X4_imagesHeld) (pc := 1) ca_4 rfl fk_X4_28 (fun _ _ _ => rfl) dX4_imagesHeld_1 (fun r1 => ?_)
  exact sn_ireturn rfl dX4_imagesHeld_4
set_option maxRecDepth 100000 in
theorem c_X4_imagesHeld (g : Gl) (p0 : (Option Nat)) : Cn g m_X4_imagesHeld eI [vA p0] (mCk 4 p0 (f_X4_imagesHeld p0)) := cn_of_sn (by decide +kernel) rfl (fun r => ⟨r, rfl⟩) rfl (fun _ _ => sn_ck (s_X4_imagesHeld p0))
/-! X4_startOf -/
def f_X4_startOf (p0 : (Option Nat)) (p1 : Int32) : Mo Int32 :=
  mBd (mGetI 4 2 p0) (fun r1 => mRt (((r1 * (41 : Int32)) + (1 : Int32)) + (p1 * (10 : Int32))))
set_option maxRecDepth 100000 in
theorem s_X4_startOf {cx : CX} (p0 : (Option Nat)) (p1 : Int32) : Sn cx m_X4_startOf eI 0 [(0, vA p0), (1, vI p1)] [] (f_X4_startOf p0 p1) := by
  refine sn_aload_n (y := m_X4_startOf) (pc := 0) dX4_startOf_0 rfl ?_
  refine sn_getI (y := m_X4_startOf) (pc := 1) ca_4 rfl fk_X4_18 (fun _ _ _ => rfl) dX4_startOf_1 (fun r1 => ?_)
  refine sn_bipush (y := m_X4_startOf) (pc := 4) dX4_startOf_4 kc_bipush_41 ?_
  refine sn_imul (y := m_X4_startOf) (pc := 6) dX4_startOf_6 ?_
  refine sn_iconst (y := m_X4_startOf) (pc := 7) dX4_startOf_7 kc_iconst_1 ?_
  refine sn_iadd (y := m_X4_startOf) (pc := 8) dX4_startOf_8 ?_
  refine sn_iload_n (y := m_X4_startOf) (pc := 9) dX4_startOf_9 rfl ?_
  refine sn_bipush (y := m_X4_startOf) (pc := 10) dX4_startOf_10 kc_bipush_10 ?_
  refine sn_imul (y := m_X4_startOf) (pc := 12) dX4_startOf_12 ?_
  refine sn_iadd (y := m_X4_startOf) (pc := 13) dX4_startOf_13 ?_
  exact sn_ireturn rfl dX4_startOf_14
set_option maxRecDepth 100000 in
theorem c_X4_startOf (g : Gl) (p0 : (Option Nat)) (p1 : Int32) : Cn g m_X4_startOf eI [vA p0, vI p1] (mCk 4 p0 (f_X4_startOf p0 p1)) := cn_of_sn (by decide +kernel) rfl (fun r => ⟨r, rfl⟩) rfl (fun _ _ => sn_ck (s_X4_startOf p0 p1))
/-! X4_copyOut -/
def f_X4_copyOut_b2 (x0 : (Option Nat)) (x1 : Int32) (x2 : (Option Nat)) (k2 : Int32 → Mo Unit) (x3 : Int32) : Mo Unit :=
  (if x3 ≥ (10 : Int32) then mRt () else mBd (mGetA 4 0 x0) (fun r1 => mBd (mCk 4 x0 (f_X4_startOf x0 x1)) (fun r2 => mBd (f_X6_at r1 (r2 + x3)) (fun r3 => mBd (f_X6_put x2 x3 r3) (fun _ => k2 (x3 + 1))))))
def f_X4_copyOut_l2 (x0 : (Option Nat)) (x1 : Int32) (x2 : (Option Nat)) : Int32 → Mo Unit := lq1 (f_X4_copyOut_b2 x0 x1 x2) fuel
set_option maxRecDepth 100000 in
theorem s_X4_copyOut_b2 {cx : CX} (x0 : (Option Nat)) (x1 : Int32) (x2 : (Option Nat)) {k2 : Int32 → Mo Unit} (hk2 : ∀ (z3 : Int32), Sn cx m_X4_copyOut eV 2 [(3, vI z3), (0, vA x0), (1, vI x1), (2, vA x2)] [] (k2 z3)) (x3 : Int32) : Sn cx m_X4_copyOut eV 2 [(3, vI x3), (0, vA x0), (1, vI x1), (2, vA x2)] [] (f_X4_copyOut_b2 x0 x1 x2 k2 x3) := by
  refine sn_iload_n (y := m_X4_copyOut) (pc := 2) dX4_copyOut_2 rfl ?_
  refine sn_bipush (y := m_X4_copyOut) (pc := 3) dX4_copyOut_3 kc_bipush_10 ?_
  refine sn_icmp_ge (y := m_X4_copyOut) (pc := 5) (tgt := 33) dX4_copyOut_5 (by decide) (fun _ => ?_) (fun _ => ?_)
  · exact sn_return rfl dX4_copyOut_33
  refine sn_aload_n (y := m_X4_copyOut) (pc := 8) dX4_copyOut_8 rfl ?_
  refine sn_iload_n (y := m_X4_copyOut) (pc := 9) dX4_copyOut_9 rfl ?_
  refine sn_aload_n (y := m_X4_copyOut) (pc := 10) dX4_copyOut_10 rfl ?_
  refine sn_getA (y := m_X4_copyOut) (pc := 11) ca_4 rfl fk_X4_11 (fun _ _ _ => rfl) dX4_copyOut_11 (fun r1 => ?_)
  refine sn_aload_n (y := m_X4_copyOut) (pc := 14) dX4_copyOut_14 rfl ?_
  refine sn_iload_n (y := m_X4_copyOut) (pc := 15) dX4_copyOut_15 rfl ?_
  refine sn_invV (y := m_X4_copyOut) (pc := 16) ca_4 (av := [vI x1]) (o := x0) (st := [vA r1, vI x3, vA x2]) dX4_copyOut_16 lk_X4_45 im_X4_startOf se_X4_startOf rfl rfl rfl rfl ⟨by decide, by decide⟩ (c_X4_startOf cx.1 x0 x1) (fun r2 => ?_)
  refine sn_iload_n (y := m_X4_copyOut) (pc := 19) dX4_copyOut_19 rfl ?_
  refine sn_iadd (y := m_X4_copyOut) (pc := 20) dX4_copyOut_20 ?_
  refine sn_invS (y := m_X4_copyOut) (pc := 21) (av := [vA r1, vI (r2 + x3)]) (st := [vI x3, vA x2]) dX4_copyOut_21 lk_X4_35 sw_X6_at rfl rfl rfl ⟨by decide, by decide⟩ (c_X6_at cx.1 r1 (r2 + x3)) (fun r3 => ?_)
  refine sn_invS (y := m_X4_copyOut) (pc := 24) (av := [vA x2, vI x3, vJ r3]) (st := []) dX4_copyOut_24 lk_X4_41 sw_X6_put rfl rfl rfl ⟨by decide, by decide⟩ (c_X6_put cx.1 x2 x3 r3) (fun _ => ?_)
  refine sn_iinc (y := m_X4_copyOut) (pc := 27) (v := x3 + 1) dX4_copyOut_27 rfl (by rfl) rfl ?_
  refine sn_goto (y := m_X4_copyOut) (pc := 30) (tgt := 2) dX4_copyOut_30 (by decide) ?_
  exact sn_sub rfl (hk2 (x3 + 1))
set_option maxRecDepth 100000 in
theorem s_X4_copyOut_l2 {cx : CX} (x0 : (Option Nat)) (x1 : Int32) (x2 : (Option Nat)) (x3 : Int32) : Sn cx m_X4_copyOut eV 2 [(3, vI x3), (0, vA x0), (1, vI x1), (2, vA x2)] [] (f_X4_copyOut_l2 x0 x1 x2 x3) :=
  sn_lq1 (L := fun x3 => [(3, vI x3), (0, vA x0), (1, vI x1), (2, vA x2)]) (fun k hk x3 => s_X4_copyOut_b2 x0 x1 x2 hk x3) fuel x3
def f_X4_copyOut (p0 : (Option Nat)) (p1 : Int32) (p2 : (Option Nat)) : Mo Unit :=
  f_X4_copyOut_l2 p0 p1 p2 (0 : Int32)
set_option maxRecDepth 100000 in
theorem s_X4_copyOut {cx : CX} (p0 : (Option Nat)) (p1 : Int32) (p2 : (Option Nat)) : Sn cx m_X4_copyOut eV 0 [(0, vA p0), (1, vI p1), (2, vA p2)] [] (f_X4_copyOut p0 p1 p2) := by
  refine sn_iconst (y := m_X4_copyOut) (pc := 0) dX4_copyOut_0 kc_iconst_0 ?_
  refine sn_istore_n (y := m_X4_copyOut) (pc := 1) dX4_copyOut_1 rfl ?_
  exact sn_sub rfl (s_X4_copyOut_l2 p0 p1 p2 (0 : Int32))
set_option maxRecDepth 100000 in
theorem c_X4_copyOut (g : Gl) (p0 : (Option Nat)) (p1 : Int32) (p2 : (Option Nat)) : Cn g m_X4_copyOut eV [vA p0, vI p1, vA p2] (mCk 4 p0 (f_X4_copyOut p0 p1 p2)) := cn_of_sn (by decide +kernel) rfl (fun _ => rfl) rfl (fun _ _ => sn_ck (s_X4_copyOut p0 p1 p2))
/-! X4_copyIn -/
def f_X4_copyIn_b2 (x0 : (Option Nat)) (x1 : Int32) (x2 : (Option Nat)) (k2 : Int32 → Mo Unit) (x3 : Int32) : Mo Unit :=
  (if x3 ≥ (10 : Int32) then mRt () else mBd (mGetA 4 0 x0) (fun r1 => mBd (mCk 4 x0 (f_X4_startOf x0 x1)) (fun r2 => mBd (f_X6_at x2 x3) (fun r3 => mBd (f_X6_put r1 (r2 + x3) r3) (fun _ => k2 (x3 + 1))))))
def f_X4_copyIn_l2 (x0 : (Option Nat)) (x1 : Int32) (x2 : (Option Nat)) : Int32 → Mo Unit := lq1 (f_X4_copyIn_b2 x0 x1 x2) fuel
set_option maxRecDepth 100000 in
theorem s_X4_copyIn_b2 {cx : CX} (x0 : (Option Nat)) (x1 : Int32) (x2 : (Option Nat)) {k2 : Int32 → Mo Unit} (hk2 : ∀ (z3 : Int32), Sn cx m_X4_copyIn eV 2 [(3, vI z3), (0, vA x0), (1, vI x1), (2, vA x2)] [] (k2 z3)) (x3 : Int32) : Sn cx m_X4_copyIn eV 2 [(3, vI x3), (0, vA x0), (1, vI x1), (2, vA x2)] [] (f_X4_copyIn_b2 x0 x1 x2 k2 x3) := by
  refine sn_iload_n (y := m_X4_copyIn) (pc := 2) dX4_copyIn_2 rfl ?_
  refine sn_bipush (y := m_X4_copyIn) (pc := 3) dX4_copyIn_3 kc_bipush_10 ?_
  refine sn_icmp_ge (y := m_X4_copyIn) (pc := 5) (tgt := 33) dX4_copyIn_5 (by decide) (fun _ => ?_) (fun _ => ?_)
  · exact sn_return rfl dX4_copyIn_33
  refine sn_aload_n (y := m_X4_copyIn) (pc := 8) dX4_copyIn_8 rfl ?_
  refine sn_getA (y := m_X4_copyIn) (pc := 9) ca_4 rfl fk_X4_11 (fun _ _ _ => rfl) dX4_copyIn_9 (fun r1 => ?_)
  refine sn_aload_n (y := m_X4_copyIn) (pc := 12) dX4_copyIn_12 rfl ?_
  refine sn_iload_n (y := m_X4_copyIn) (pc := 13) dX4_copyIn_13 rfl ?_
  refine sn_invV (y := m_X4_copyIn) (pc := 14) ca_4 (av := [vI x1]) (o := x0) (st := [vA r1]) dX4_copyIn_14 lk_X4_45 im_X4_startOf se_X4_startOf rfl rfl rfl rfl ⟨by decide, by decide⟩ (c_X4_startOf cx.1 x0 x1) (fun r2 => ?_)
  refine sn_iload_n (y := m_X4_copyIn) (pc := 17) dX4_copyIn_17 rfl ?_
  refine sn_iadd (y := m_X4_copyIn) (pc := 18) dX4_copyIn_18 ?_
  refine sn_aload_n (y := m_X4_copyIn) (pc := 19) dX4_copyIn_19 rfl ?_
  refine sn_iload_n (y := m_X4_copyIn) (pc := 20) dX4_copyIn_20 rfl ?_
  refine sn_invS (y := m_X4_copyIn) (pc := 21) (av := [vA x2, vI x3]) (st := [vI (r2 + x3), vA r1]) dX4_copyIn_21 lk_X4_35 sw_X6_at rfl rfl rfl ⟨by decide, by decide⟩ (c_X6_at cx.1 x2 x3) (fun r3 => ?_)
  refine sn_invS (y := m_X4_copyIn) (pc := 24) (av := [vA r1, vI (r2 + x3), vJ r3]) (st := []) dX4_copyIn_24 lk_X4_41 sw_X6_put rfl rfl rfl ⟨by decide, by decide⟩ (c_X6_put cx.1 r1 (r2 + x3) r3) (fun _ => ?_)
  refine sn_iinc (y := m_X4_copyIn) (pc := 27) (v := x3 + 1) dX4_copyIn_27 rfl (by rfl) rfl ?_
  refine sn_goto (y := m_X4_copyIn) (pc := 30) (tgt := 2) dX4_copyIn_30 (by decide) ?_
  exact sn_sub rfl (hk2 (x3 + 1))
set_option maxRecDepth 100000 in
theorem s_X4_copyIn_l2 {cx : CX} (x0 : (Option Nat)) (x1 : Int32) (x2 : (Option Nat)) (x3 : Int32) : Sn cx m_X4_copyIn eV 2 [(3, vI x3), (0, vA x0), (1, vI x1), (2, vA x2)] [] (f_X4_copyIn_l2 x0 x1 x2 x3) :=
  sn_lq1 (L := fun x3 => [(3, vI x3), (0, vA x0), (1, vI x1), (2, vA x2)]) (fun k hk x3 => s_X4_copyIn_b2 x0 x1 x2 hk x3) fuel x3
def f_X4_copyIn (p0 : (Option Nat)) (p1 : Int32) (p2 : (Option Nat)) : Mo Unit :=
  f_X4_copyIn_l2 p0 p1 p2 (0 : Int32)
set_option maxRecDepth 100000 in
theorem s_X4_copyIn {cx : CX} (p0 : (Option Nat)) (p1 : Int32) (p2 : (Option Nat)) : Sn cx m_X4_copyIn eV 0 [(0, vA p0), (1, vI p1), (2, vA p2)] [] (f_X4_copyIn p0 p1 p2) := by
  refine sn_iconst (y := m_X4_copyIn) (pc := 0) dX4_copyIn_0 kc_iconst_0 ?_
  refine sn_istore_n (y := m_X4_copyIn) (pc := 1) dX4_copyIn_1 rfl ?_
  exact sn_sub rfl (s_X4_copyIn_l2 p0 p1 p2 (0 : Int32))
set_option maxRecDepth 100000 in
theorem c_X4_copyIn (g : Gl) (p0 : (Option Nat)) (p1 : Int32) (p2 : (Option Nat)) : Cn g m_X4_copyIn eV [vA p0, vI p1, vA p2] (mCk 4 p0 (f_X4_copyIn p0 p1 p2)) := cn_of_sn (by decide +kernel) rfl (fun _ => rfl) rfl (fun _ _ => sn_ck (s_X4_copyIn p0 p1 p2))
/-! X4_copyState -/
def f_X4_copyState_b3 (x0 : (Option Nat)) (x1 : Int32) (x2 : (Option Nat)) (x3 : Int32) (k3 : Int32 → Mo Unit) (x4 : Int32) : Mo Unit :=
  (if x4 ≥ (41 : Int32) then mRt () else mBd (f_X6_at x0 ((x1 * (41 : Int32)) + x4)) (fun r1 => mBd (f_X6_put x2 ((x3 * (41 : Int32)) + x4) r1) (fun _ => k3 (x4 + 1))))
def f_X4_copyState_l3 (x0 : (Option Nat)) (x1 : Int32) (x2 : (Option Nat)) (x3 : Int32) : Int32 → Mo Unit := lq1 (f_X4_copyState_b3 x0 x1 x2 x3) fuel
set_option maxRecDepth 100000 in
theorem s_X4_copyState_b3 {cx : CX} (x0 : (Option Nat)) (x1 : Int32) (x2 : (Option Nat)) (x3 : Int32) {k3 : Int32 → Mo Unit} (hk3 : ∀ (z4 : Int32), Sn cx m_X4_copyState eV 3 [(4, vI z4), (0, vA x0), (1, vI x1), (2, vA x2), (3, vI x3)] [] (k3 z4)) (x4 : Int32) : Sn cx m_X4_copyState eV 3 [(4, vI x4), (0, vA x0), (1, vI x1), (2, vA x2), (3, vI x3)] [] (f_X4_copyState_b3 x0 x1 x2 x3 k3 x4) := by
  refine sn_iload (y := m_X4_copyState) (pc := 3) dX4_copyState_3 rfl ?_
  refine sn_bipush (y := m_X4_copyState) (pc := 5) dX4_copyState_5 kc_bipush_41 ?_
  refine sn_icmp_ge (y := m_X4_copyState) (pc := 7) (tgt := 38) dX4_copyState_7 (by decide) (fun _ => ?_) (fun _ => ?_)
  · exact sn_return rfl dX4_copyState_38
  refine sn_aload_n (y := m_X4_copyState) (pc := 10) dX4_copyState_10 rfl ?_
  refine sn_iload_n (y := m_X4_copyState) (pc := 11) dX4_copyState_11 rfl ?_
  refine sn_bipush (y := m_X4_copyState) (pc := 12) dX4_copyState_12 kc_bipush_41 ?_
  refine sn_imul (y := m_X4_copyState) (pc := 14) dX4_copyState_14 ?_
  refine sn_iload (y := m_X4_copyState) (pc := 15) dX4_copyState_15 rfl ?_
  refine sn_iadd (y := m_X4_copyState) (pc := 17) dX4_copyState_17 ?_
  refine sn_aload_n (y := m_X4_copyState) (pc := 18) dX4_copyState_18 rfl ?_
  refine sn_iload_n (y := m_X4_copyState) (pc := 19) dX4_copyState_19 rfl ?_
  refine sn_bipush (y := m_X4_copyState) (pc := 20) dX4_copyState_20 kc_bipush_41 ?_
  refine sn_imul (y := m_X4_copyState) (pc := 22) dX4_copyState_22 ?_
  refine sn_iload (y := m_X4_copyState) (pc := 23) dX4_copyState_23 rfl ?_
  refine sn_iadd (y := m_X4_copyState) (pc := 25) dX4_copyState_25 ?_
  refine sn_invS (y := m_X4_copyState) (pc := 26) (av := [vA x0, vI ((x1 * (41 : Int32)) + x4)]) (st := [vI ((x3 * (41 : Int32)) + x4), vA x2]) dX4_copyState_26 lk_X4_35 sw_X6_at rfl rfl rfl ⟨by decide, by decide⟩ (c_X6_at cx.1 x0 ((x1 * (41 : Int32)) + x4)) (fun r1 => ?_)
  refine sn_invS (y := m_X4_copyState) (pc := 29) (av := [vA x2, vI ((x3 * (41 : Int32)) + x4), vJ r1]) (st := []) dX4_copyState_29 lk_X4_41 sw_X6_put rfl rfl rfl ⟨by decide, by decide⟩ (c_X6_put cx.1 x2 ((x3 * (41 : Int32)) + x4) r1) (fun _ => ?_)
  refine sn_iinc (y := m_X4_copyState) (pc := 32) (v := x4 + 1) dX4_copyState_32 rfl (by rfl) rfl ?_
  refine sn_goto (y := m_X4_copyState) (pc := 35) (tgt := 3) dX4_copyState_35 (by decide) ?_
  exact sn_sub rfl (hk3 (x4 + 1))
set_option maxRecDepth 100000 in
theorem s_X4_copyState_l3 {cx : CX} (x0 : (Option Nat)) (x1 : Int32) (x2 : (Option Nat)) (x3 : Int32) (x4 : Int32) : Sn cx m_X4_copyState eV 3 [(4, vI x4), (0, vA x0), (1, vI x1), (2, vA x2), (3, vI x3)] [] (f_X4_copyState_l3 x0 x1 x2 x3 x4) :=
  sn_lq1 (L := fun x4 => [(4, vI x4), (0, vA x0), (1, vI x1), (2, vA x2), (3, vI x3)]) (fun k hk x4 => s_X4_copyState_b3 x0 x1 x2 x3 hk x4) fuel x4
def f_X4_copyState (p0 : (Option Nat)) (p1 : Int32) (p2 : (Option Nat)) (p3 : Int32) : Mo Unit :=
  f_X4_copyState_l3 p0 p1 p2 p3 (0 : Int32)
set_option maxRecDepth 100000 in
theorem s_X4_copyState {cx : CX} (p0 : (Option Nat)) (p1 : Int32) (p2 : (Option Nat)) (p3 : Int32) : Sn cx m_X4_copyState eV 0 [(0, vA p0), (1, vI p1), (2, vA p2), (3, vI p3)] [] (f_X4_copyState p0 p1 p2 p3) := by
  refine sn_iconst (y := m_X4_copyState) (pc := 0) dX4_copyState_0 kc_iconst_0 ?_
  refine sn_istore (y := m_X4_copyState) (pc := 1) dX4_copyState_1 rfl ?_
  exact sn_sub rfl (s_X4_copyState_l3 p0 p1 p2 p3 (0 : Int32))
set_option maxRecDepth 100000 in
theorem c_X4_copyState (g : Gl) (p0 : (Option Nat)) (p1 : Int32) (p2 : (Option Nat)) (p3 : Int32) : Cn g m_X4_copyState eV [vA p0, vI p1, vA p2, vI p3] (f_X4_copyState p0 p1 p2 p3) := cn_of_sn (by decide +kernel) rfl (fun _ => rfl) rfl (fun _ _ => s_X4_copyState p0 p1 p2 p3)
/-! X4_beginAct -/
def f_X4_beginAct (p0 : (Option Nat)) : Mo Unit :=
  mBd (mGetI 4 2 p0) (fun r1 => mBd (f_X6_mod ((r1 + (1 : Int32)).toInt64) (21 : Int32)) (fun r2 => mBd (mGetA 4 0 p0) (fun r3 => mBd (mGetI 4 2 p0) (fun r4 => mBd (mGetA 4 0 p0) (fun r5 => mBd (f_X4_copyState r3 r4 r5 r2) (fun _ => mBd (mPutI 4 2 p0 r2) (fun _ => mBd (mGetI 4 3 p0) (fun r6 => mBd (f_J9_min_7cf53 (r6 + (1 : Int32)) (20 : Int32)) (fun r7 => mBd (mPutI 4 3 p0 r7) (fun _ => mBd (mPutI 4 4 p0 (0 : Int32)) (fun _ => mRt ())))))))))))
set_option maxRecDepth 100000 in
theorem s_X4_beginAct {cx : CX} (p0 : (Option Nat)) : Sn cx m_X4_beginAct eV 0 [(0, vA p0)] [] (f_X4_beginAct p0) := by
  refine sn_aload_n (y := m_X4_beginAct) (pc := 0) dX4_beginAct_0 rfl ?_
  refine sn_getI (y := m_X4_beginAct) (pc := 1) ca_4 rfl fk_X4_18 (fun _ _ _ => rfl) dX4_beginAct_1 (fun r1 => ?_)
  refine sn_iconst (y := m_X4_beginAct) (pc := 4) dX4_beginAct_4 kc_iconst_1 ?_
  refine sn_iadd (y := m_X4_beginAct) (pc := 5) dX4_beginAct_5 ?_
  refine sn_i2l (y := m_X4_beginAct) (pc := 6) dX4_beginAct_6 ?_
  refine sn_bipush (y := m_X4_beginAct) (pc := 7) dX4_beginAct_7 kc_bipush_21 ?_
  refine sn_invS (y := m_X4_beginAct) (pc := 9) (av := [vJ ((r1 + (1 : Int32)).toInt64), vI (21 : Int32)]) (st := []) dX4_beginAct_9 lk_X4_49 sw_X6_mod rfl rfl rfl ⟨by decide, by decide⟩ (c_X6_mod cx.1 ((r1 + (1 : Int32)).toInt64) (21 : Int32)) (fun r2 => ?_)
  refine sn_istore_n (y := m_X4_beginAct) (pc := 12) dX4_beginAct_12 rfl ?_
  refine sn_aload_n (y := m_X4_beginAct) (pc := 13) dX4_beginAct_13 rfl ?_
  refine sn_getA (y := m_X4_beginAct) (pc := 14) ca_4 rfl fk_X4_11 (fun _ _ _ => rfl) dX4_beginAct_14 (fun r3 => ?_)
  refine sn_aload_n (y := m_X4_beginAct) (pc := 17) dX4_beginAct_17 rfl ?_
  refine sn_getI (y := m_X4_beginAct) (pc := 18) ca_4 rfl fk_X4_18 (fun _ _ _ => rfl) dX4_beginAct_18 (fun r4 => ?_)
  refine sn_aload_n (y := m_X4_beginAct) (pc := 21) dX4_beginAct_21 rfl ?_
  refine sn_getA (y := m_X4_beginAct) (pc := 22) ca_4 rfl fk_X4_11 (fun _ _ _ => rfl) dX4_beginAct_22 (fun r5 => ?_)
  refine sn_iload_n (y := m_X4_beginAct) (pc := 25) dX4_beginAct_25 rfl ?_
  refine sn_invS (y := m_X4_beginAct) (pc := 26) (av := [vA r3, vI r4, vA r5, vI r2]) (st := []) dX4_beginAct_26 lk_X4_53 sw_X4_copyState rfl rfl rfl ⟨by decide, by decide⟩ (c_X4_copyState cx.1 r3 r4 r5 r2) (fun _ => ?_)
  refine sn_aload_n (y := m_X4_beginAct) (pc := 29) dX4_beginAct_29 rfl ?_
  refine sn_iload_n (y := m_X4_beginAct) (pc := 30) dX4_beginAct_30 rfl ?_
  refine sn_putI (y := m_X4_beginAct) (pc := 31) ca_4 rfl fk_X4_18 (Or.inl rfl) rfl dX4_beginAct_31 ?_
  refine sn_aload_n (y := m_X4_beginAct) (pc := 34) dX4_beginAct_34 rfl ?_
  refine sn_aload_n (y := m_X4_beginAct) (pc := 35) dX4_beginAct_35 rfl ?_
  refine sn_getI (y := m_X4_beginAct) (pc := 36) ca_4 rfl fk_X4_22 (fun _ _ _ => rfl) dX4_beginAct_36 (fun r6 => ?_)
  refine sn_iconst (y := m_X4_beginAct) (pc := 39) dX4_beginAct_39 kc_iconst_1 ?_
  refine sn_iadd (y := m_X4_beginAct) (pc := 40) dX4_beginAct_40 ?_
  refine sn_bipush (y := m_X4_beginAct) (pc := 41) dX4_beginAct_41 kc_bipush_20 ?_
  refine sn_invS (y := m_X4_beginAct) (pc := 43) (av := [vI (r6 + (1 : Int32)), vI (20 : Int32)]) (st := [vA p0]) dX4_beginAct_43 lk_X4_57 sw_J9_min_7cf53 rfl rfl rfl ⟨by decide, by decide⟩ (c_J9_min_7cf53 cx.1 (r6 + (1 : Int32)) (20 : Int32)) (fun r7 => ?_)
  refine sn_putI (y := m_X4_beginAct) (pc := 46) ca_4 rfl fk_X4_22 (Or.inl rfl) rfl dX4_beginAct_46 ?_
  refine sn_aload_n (y := m_X4_beginAct) (pc := 49) dX4_beginAct_49 rfl ?_
  refine sn_iconst (y := m_X4_beginAct) (pc := 50) dX4_beginAct_50 kc_iconst_0 ?_
  refine sn_putI (y := m_X4_beginAct) (pc := 51) ca_4 rfl fk_X4_25 (Or.inl rfl) rfl dX4_beginAct_51 ?_
  exact sn_return rfl dX4_beginAct_54
set_option maxRecDepth 100000 in
theorem c_X4_beginAct (g : Gl) (p0 : (Option Nat)) : Cn g m_X4_beginAct eV [vA p0] (mCk 4 p0 (f_X4_beginAct p0)) := cn_of_sn (by decide +kernel) rfl (fun _ => rfl) rfl (fun _ _ => sn_ck (s_X4_beginAct p0))
/-! X4_stepBack -/
def f_X4_stepBack (p0 : (Option Nat)) : Mo Int32 :=
  mBd (mGetI 4 3 p0) (fun r1 => (if ¬ r1 = 0 then mBd (mGetI 4 2 p0) (fun r2 => mBd (f_X6_mod ((r2 - (1 : Int32)).toInt64) (21 : Int32)) (fun r3 => mBd (mPutI 4 2 p0 r3) (fun _ => mBd (mGetI 4 3 p0) (fun r4 => mBd (mPutI 4 3 p0 (r4 - (1 : Int32))) (fun _ => mBd (mGetI 4 4 p0) (fun r5 => mBd (mPutI 4 4 p0 (r5 + (1 : Int32))) (fun _ => mRt (1 : Int32)))))))) else mRt (0 : Int32)))
set_option maxRecDepth 100000 in
theorem s_X4_stepBack {cx : CX} (p0 : (Option Nat)) : Sn cx m_X4_stepBack eI 0 [(0, vA p0)] [] (f_X4_stepBack p0) := by
  refine sn_aload_n (y := m_X4_stepBack) (pc := 0) dX4_stepBack_0 rfl ?_
  refine sn_getI (y := m_X4_stepBack) (pc := 1) ca_4 rfl fk_X4_22 (fun _ _ _ => rfl) dX4_stepBack_1 (fun r1 => ?_)
  refine sn_if_ne (y := m_X4_stepBack) (pc := 4) (tgt := 9) dX4_stepBack_4 (by decide) (fun _ => ?_) (fun _ => ?_)
  · refine sn_aload_n (y := m_X4_stepBack) (pc := 9) dX4_stepBack_9 rfl ?_
    refine sn_aload_n (y := m_X4_stepBack) (pc := 10) dX4_stepBack_10 rfl ?_
    refine sn_getI (y := m_X4_stepBack) (pc := 11) ca_4 rfl fk_X4_18 (fun _ _ _ => rfl) dX4_stepBack_11 (fun r2 => ?_)
    refine sn_iconst (y := m_X4_stepBack) (pc := 14) dX4_stepBack_14 kc_iconst_1 ?_
    refine sn_isub (y := m_X4_stepBack) (pc := 15) dX4_stepBack_15 ?_
    refine sn_i2l (y := m_X4_stepBack) (pc := 16) dX4_stepBack_16 ?_
    refine sn_bipush (y := m_X4_stepBack) (pc := 17) dX4_stepBack_17 kc_bipush_21 ?_
    refine sn_invS (y := m_X4_stepBack) (pc := 19) (av := [vJ ((r2 - (1 : Int32)).toInt64), vI (21 : Int32)]) (st := [vA p0]) dX4_stepBack_19 lk_X4_49 sw_X6_mod rfl rfl rfl ⟨by decide, by decide⟩ (c_X6_mod cx.1 ((r2 - (1 : Int32)).toInt64) (21 : Int32)) (fun r3 => ?_)
    refine sn_putI (y := m_X4_stepBack) (pc := 22) ca_4 rfl fk_X4_18 (Or.inl rfl) rfl dX4_stepBack_22 ?_
    refine sn_aload_n (y := m_X4_stepBack) (pc := 25) dX4_stepBack_25 rfl ?_
    refine sn_dup (y := m_X4_stepBack) (pc := 26) rfl dX4_stepBack_26 ?_
    refine sn_getI (y := m_X4_stepBack) (pc := 27) ca_4 rfl fk_X4_22 (fun _ _ _ => rfl) dX4_stepBack_27 (fun r4 => ?_)
    refine sn_iconst (y := m_X4_stepBack) (pc := 30) dX4_stepBack_30 kc_iconst_1 ?_
    refine sn_isub (y := m_X4_stepBack) (pc := 31) dX4_stepBack_31 ?_
    refine sn_putI (y := m_X4_stepBack) (pc := 32) ca_4 rfl fk_X4_22 (Or.inl rfl) rfl dX4_stepBack_32 ?_
    refine sn_aload_n (y := m_X4_stepBack) (pc := 35) dX4_stepBack_35 rfl ?_
    refine sn_dup (y := m_X4_stepBack) (pc := 36) rfl dX4_stepBack_36 ?_
    refine sn_getI (y := m_X4_stepBack) (pc := 37) ca_4 rfl fk_X4_25 (fun _ _ _ => rfl) dX4_stepBack_37 (fun r5 => ?_)
    refine sn_iconst (y := m_X4_stepBack) (pc := 40) dX4_stepBack_40 kc_iconst_1 ?_
    refine sn_iadd (y := m_X4_stepBack) (pc := 41) dX4_stepBack_41 ?_
    refine sn_putI (y := m_X4_stepBack) (pc := 42) ca_4 rfl fk_X4_25 (Or.inl rfl) rfl dX4_stepBack_42 ?_
    refine sn_iconst (y := m_X4_stepBack) (pc := 45) dX4_stepBack_45 kc_iconst_1 ?_
    exact sn_zreturnC (by decide) rfl dX4_stepBack_46
  refine sn_iconst (y := m_X4_stepBack) (pc := 7) dX4_stepBack_7 kc_iconst_0 ?_
  exact sn_zreturnC (by decide) rfl dX4_stepBack_8
set_option maxRecDepth 100000 in
theorem c_X4_stepBack (g : Gl) (p0 : (Option Nat)) : Cn g m_X4_stepBack eI [vA p0] (mCk 4 p0 (f_X4_stepBack p0)) := cn_of_sn (by decide +kernel) rfl (fun r => ⟨r, rfl⟩) rfl (fun _ _ => sn_ck (s_X4_stepBack p0))
/-! X4_stepOn -/
def f_X4_stepOn (p0 : (Option Nat)) : Mo Int32 :=
  mBd (mGetI 4 4 p0) (fun r1 => (if ¬ r1 = 0 then mBd (mGetI 4 2 p0) (fun r2 => mBd (f_X6_mod ((r2 + (1 : Int32)).toInt64) (21 : Int32)) (fun r3 => mBd (mPutI 4 2 p0 r3) (fun _ => mBd (mGetI 4 3 p0) (fun r4 => mBd (mPutI 4 3 p0 (r4 + (1 : Int32))) (fun _ => mBd (mGetI 4 4 p0) (fun r5 => mBd (mPutI 4 4 p0 (r5 - (1 : Int32))) (fun _ => mRt (1 : Int32)))))))) else mRt (0 : Int32)))
set_option maxRecDepth 100000 in
theorem s_X4_stepOn {cx : CX} (p0 : (Option Nat)) : Sn cx m_X4_stepOn eI 0 [(0, vA p0)] [] (f_X4_stepOn p0) := by
  refine sn_aload_n (y := m_X4_stepOn) (pc := 0) dX4_stepOn_0 rfl ?_
  refine sn_getI (y := m_X4_stepOn) (pc := 1) ca_4 rfl fk_X4_25 (fun _ _ _ => rfl) dX4_stepOn_1 (fun r1 => ?_)
  refine sn_if_ne (y := m_X4_stepOn) (pc := 4) (tgt := 9) dX4_stepOn_4 (by decide) (fun _ => ?_) (fun _ => ?_)
  · refine sn_aload_n (y := m_X4_stepOn) (pc := 9) dX4_stepOn_9 rfl ?_
    refine sn_aload_n (y := m_X4_stepOn) (pc := 10) dX4_stepOn_10 rfl ?_
    refine sn_getI (y := m_X4_stepOn) (pc := 11) ca_4 rfl fk_X4_18 (fun _ _ _ => rfl) dX4_stepOn_11 (fun r2 => ?_)
    refine sn_iconst (y := m_X4_stepOn) (pc := 14) dX4_stepOn_14 kc_iconst_1 ?_
    refine sn_iadd (y := m_X4_stepOn) (pc := 15) dX4_stepOn_15 ?_
    refine sn_i2l (y := m_X4_stepOn) (pc := 16) dX4_stepOn_16 ?_
    refine sn_bipush (y := m_X4_stepOn) (pc := 17) dX4_stepOn_17 kc_bipush_21 ?_
    refine sn_invS (y := m_X4_stepOn) (pc := 19) (av := [vJ ((r2 + (1 : Int32)).toInt64), vI (21 : Int32)]) (st := [vA p0]) dX4_stepOn_19 lk_X4_49 sw_X6_mod rfl rfl rfl ⟨by decide, by decide⟩ (c_X6_mod cx.1 ((r2 + (1 : Int32)).toInt64) (21 : Int32)) (fun r3 => ?_)
    refine sn_putI (y := m_X4_stepOn) (pc := 22) ca_4 rfl fk_X4_18 (Or.inl rfl) rfl dX4_stepOn_22 ?_
    refine sn_aload_n (y := m_X4_stepOn) (pc := 25) dX4_stepOn_25 rfl ?_
    refine sn_dup (y := m_X4_stepOn) (pc := 26) rfl dX4_stepOn_26 ?_
    refine sn_getI (y := m_X4_stepOn) (pc := 27) ca_4 rfl fk_X4_22 (fun _ _ _ => rfl) dX4_stepOn_27 (fun r4 => ?_)
    refine sn_iconst (y := m_X4_stepOn) (pc := 30) dX4_stepOn_30 kc_iconst_1 ?_
    refine sn_iadd (y := m_X4_stepOn) (pc := 31) dX4_stepOn_31 ?_
    refine sn_putI (y := m_X4_stepOn) (pc := 32) ca_4 rfl fk_X4_22 (Or.inl rfl) rfl dX4_stepOn_32 ?_
    refine sn_aload_n (y := m_X4_stepOn) (pc := 35) dX4_stepOn_35 rfl ?_
    refine sn_dup (y := m_X4_stepOn) (pc := 36) rfl dX4_stepOn_36 ?_
    refine sn_getI (y := m_X4_stepOn) (pc := 37) ca_4 rfl fk_X4_25 (fun _ _ _ => rfl) dX4_stepOn_37 (fun r5 => ?_)
    refine sn_iconst (y := m_X4_stepOn) (pc := 40) dX4_stepOn_40 kc_iconst_1 ?_
    refine sn_isub (y := m_X4_stepOn) (pc := 41) dX4_stepOn_41 ?_
    refine sn_putI (y := m_X4_stepOn) (pc := 42) ca_4 rfl fk_X4_25 (Or.inl rfl) rfl dX4_stepOn_42 ?_
    refine sn_iconst (y := m_X4_stepOn) (pc := 45) dX4_stepOn_45 kc_iconst_1 ?_
    exact sn_zreturnC (by decide) rfl dX4_stepOn_46
  refine sn_iconst (y := m_X4_stepOn) (pc := 7) dX4_stepOn_7 kc_iconst_0 ?_
  exact sn_zreturnC (by decide) rfl dX4_stepOn_8
set_option maxRecDepth 100000 in
theorem c_X4_stepOn (g : Gl) (p0 : (Option Nat)) : Cn g m_X4_stepOn eI [vA p0] (mCk 4 p0 (f_X4_stepOn p0)) := cn_of_sn (by decide +kernel) rfl (fun r => ⟨r, rfl⟩) rfl (fun _ _ => sn_ck (s_X4_stepOn p0))
/-! X4_keepImage -/
def f_X4_keepImage (p0 : (Option Nat)) : Mo Int32 :=
  mBd (mGetI 4 5 p0) (fun r1 => (if r1 < (4 : Int32) then mBd (mGetA 4 0 p0) (fun r2 => mBd (mGetI 4 2 p0) (fun r3 => mBd (mGetA 4 1 p0) (fun r4 => mBd (mGetI 4 5 p0) (fun r5 => mBd (f_X4_copyState r2 r3 r4 r5) (fun _ => mBd (mGetI 4 5 p0) (fun r6 => mBd (mPutI 4 5 p0 (r6 + (1 : Int32))) (fun _ => mRt (1 : Int32)))))))) else mRt (0 : Int32)))
set_option maxRecDepth 100000 in
theorem s_X4_keepImage {cx : CX} (p0 : (Option Nat)) : Sn cx m_X4_keepImage eI 0 [(0, vA p0)] [] (f_X4_keepImage p0) := by
  refine sn_aload_n (y := m_X4_keepImage) (pc := 0) dX4_keepImage_0 rfl ?_
  refine sn_getI (y := m_X4_keepImage) (pc := 1) ca_4 rfl fk_X4_28 (fun _ _ _ => rfl) dX4_keepImage_1 (fun r1 => ?_)
  refine sn_iconst (y := m_X4_keepImage) (pc := 4) dX4_keepImage_4 kc_iconst_4 ?_
  refine sn_icmp_lt (y := m_X4_keepImage) (pc := 5) (tgt := 10) dX4_keepImage_5 (by decide) (fun _ => ?_) (fun _ => ?_)
  · refine sn_aload_n (y := m_X4_keepImage) (pc := 10) dX4_keepImage_10 rfl ?_
    refine sn_getA (y := m_X4_keepImage) (pc := 11) ca_4 rfl fk_X4_11 (fun _ _ _ => rfl) dX4_keepImage_11 (fun r2 => ?_)
    refine sn_aload_n (y := m_X4_keepImage) (pc := 14) dX4_keepImage_14 rfl ?_
    refine sn_getI (y := m_X4_keepImage) (pc := 15) ca_4 rfl fk_X4_18 (fun _ _ _ => rfl) dX4_keepImage_15 (fun r3 => ?_)
    refine sn_aload_n (y := m_X4_keepImage) (pc := 18) dX4_keepImage_18 rfl ?_
    refine sn_getA (y := m_X4_keepImage) (pc := 19) ca_4 rfl fk_X4_15 (fun _ _ _ => rfl) dX4_keepImage_19 (fun r4 => ?_)
    refine sn_aload_n (y := m_X4_keepImage) (pc := 22) dX4_keepImage_22 rfl ?_
    refine sn_getI (y := m_X4_keepImage) (pc := 23) ca_4 rfl fk_X4_28 (fun _ _ _ => rfl) dX4_keepImage_23 (fun r5 => ?_)
    refine sn_invS (y := m_X4_keepImage) (pc := 26) (av := [vA r2, vI r3, vA r4, vI r5]) (st := []) dX4_keepImage_26 lk_X4_53 sw_X4_copyState rfl rfl rfl ⟨by decide, by decide⟩ (c_X4_copyState cx.1 r2 r3 r4 r5) (fun _ => ?_)
    refine sn_aload_n (y := m_X4_keepImage) (pc := 29) dX4_keepImage_29 rfl ?_
    refine sn_dup (y := m_X4_keepImage) (pc := 30) rfl dX4_keepImage_30 ?_
    refine sn_getI (y := m_X4_keepImage) (pc := 31) ca_4 rfl fk_X4_28 (fun _ _ _ => rfl) dX4_keepImage_31 (fun r6 => ?_)
    refine sn_iconst (y := m_X4_keepImage) (pc := 34) dX4_keepImage_34 kc_iconst_1 ?_
    refine sn_iadd (y := m_X4_keepImage) (pc := 35) dX4_keepImage_35 ?_
    refine sn_putI (y := m_X4_keepImage) (pc := 36) ca_4 rfl fk_X4_28 (Or.inl rfl) rfl dX4_keepImage_36 ?_
    refine sn_iconst (y := m_X4_keepImage) (pc := 39) dX4_keepImage_39 kc_iconst_1 ?_
    exact sn_zreturnC (by decide) rfl dX4_keepImage_40
  refine sn_iconst (y := m_X4_keepImage) (pc := 8) dX4_keepImage_8 kc_iconst_0 ?_
  exact sn_zreturnC (by decide) rfl dX4_keepImage_9
set_option maxRecDepth 100000 in
theorem c_X4_keepImage (g : Gl) (p0 : (Option Nat)) : Cn g m_X4_keepImage eI [vA p0] (mCk 4 p0 (f_X4_keepImage p0)) := cn_of_sn (by decide +kernel) rfl (fun r => ⟨r, rfl⟩) rfl (fun _ _ => sn_ck (s_X4_keepImage p0))
/-! X4_bringBack -/
def f_X4_bringBack (p0 : (Option Nat)) (p1 : Int32) : Mo Unit :=
  mBd (mGetA 4 1 p0) (fun r1 => mBd (mGetA 4 0 p0) (fun r2 => mBd (mGetI 4 2 p0) (fun r3 => mBd (f_X4_copyState r1 p1 r2 r3) (fun _ => mRt ()))))
set_option maxRecDepth 100000 in
theorem s_X4_bringBack {cx : CX} (p0 : (Option Nat)) (p1 : Int32) : Sn cx m_X4_bringBack eV 0 [(0, vA p0), (1, vI p1)] [] (f_X4_bringBack p0 p1) := by
  refine sn_aload_n (y := m_X4_bringBack) (pc := 0) dX4_bringBack_0 rfl ?_
  refine sn_getA (y := m_X4_bringBack) (pc := 1) ca_4 rfl fk_X4_15 (fun _ _ _ => rfl) dX4_bringBack_1 (fun r1 => ?_)
  refine sn_iload_n (y := m_X4_bringBack) (pc := 4) dX4_bringBack_4 rfl ?_
  refine sn_aload_n (y := m_X4_bringBack) (pc := 5) dX4_bringBack_5 rfl ?_
  refine sn_getA (y := m_X4_bringBack) (pc := 6) ca_4 rfl fk_X4_11 (fun _ _ _ => rfl) dX4_bringBack_6 (fun r2 => ?_)
  refine sn_aload_n (y := m_X4_bringBack) (pc := 9) dX4_bringBack_9 rfl ?_
  refine sn_getI (y := m_X4_bringBack) (pc := 10) ca_4 rfl fk_X4_18 (fun _ _ _ => rfl) dX4_bringBack_10 (fun r3 => ?_)
  refine sn_invS (y := m_X4_bringBack) (pc := 13) (av := [vA r1, vI p1, vA r2, vI r3]) (st := []) dX4_bringBack_13 lk_X4_53 sw_X4_copyState rfl rfl rfl ⟨by decide, by decide⟩ (c_X4_copyState cx.1 r1 p1 r2 r3) (fun _ => ?_)
  exact sn_return rfl dX4_bringBack_16
set_option maxRecDepth 100000 in
theorem c_X4_bringBack (g : Gl) (p0 : (Option Nat)) (p1 : Int32) : Cn g m_X4_bringBack eV [vA p0, vI p1] (mCk 4 p0 (f_X4_bringBack p0 p1)) := cn_of_sn (by decide +kernel) rfl (fun _ => rfl) rfl (fun _ _ => sn_ck (s_X4_bringBack p0 p1))
/-! X6_same -/
def f_X6_same_b19 (x0 : (Option Nat)) (x1 : (Option Nat)) (k19 : Int32 → Mo Int32) (x2 : Int32) : Mo Int32 :=
  mBd (mLen x0) (fun r3 => (if x2 ≥ r3 then mRt (1 : Int32) else mBd (mLdJ x0 x2) (fun r4 => mBd (mLdJ x1 x2) (fun r5 => (if r4 = r5 then k19 (x2 + 1) else mRt (0 : Int32))))))
def f_X6_same_l19 (x0 : (Option Nat)) (x1 : (Option Nat)) : Int32 → Mo Int32 := lq1 (f_X6_same_b19 x0 x1) fuel
set_option maxRecDepth 100000 in
theorem s_X6_same_b19 {cx : CX} (x0 : (Option Nat)) (x1 : (Option Nat)) {k19 : Int32 → Mo Int32} (hk19 : ∀ (z2 : Int32), Sn cx m_X6_same eI 19 [(2, vI z2), (0, vA x0), (1, vA x1)] [] (k19 z2)) (x2 : Int32) : Sn cx m_X6_same eI 19 [(2, vI x2), (0, vA x0), (1, vA x1)] [] (f_X6_same_b19 x0 x1 k19 x2) := by
  refine sn_iload_n (y := m_X6_same) (pc := 19) dX6_same_19 rfl ?_
  refine sn_aload_n (y := m_X6_same) (pc := 20) dX6_same_20 rfl ?_
  refine sn_alen (y := m_X6_same) (pc := 21) dX6_same_21 (fun r3 => ?_)
  refine sn_icmp_ge (y := m_X6_same) (pc := 22) (tgt := 43) dX6_same_22 (by decide) (fun _ => ?_) (fun _ => ?_)
  · refine sn_iconst (y := m_X6_same) (pc := 43) dX6_same_43 kc_iconst_1 ?_
    exact sn_zreturnC (by decide) rfl dX6_same_44
  refine sn_aload_n (y := m_X6_same) (pc := 25) dX6_same_25 rfl ?_
  refine sn_iload_n (y := m_X6_same) (pc := 26) dX6_same_26 rfl ?_
  refine sn_laload (y := m_X6_same) (pc := 27) dX6_same_27 (fun r4 => ?_)
  refine sn_aload_n (y := m_X6_same) (pc := 28) dX6_same_28 rfl ?_
  refine sn_iload_n (y := m_X6_same) (pc := 29) dX6_same_29 rfl ?_
  refine sn_laload (y := m_X6_same) (pc := 30) dX6_same_30 (fun r5 => ?_)
  refine sn_lc_eq (y := m_X6_same) (pc := 31) (tgt := 37) dX6_same_31 dX6_same_32 (by decide) (fun _ => ?_) (fun _ => ?_)
  · refine sn_iinc (y := m_X6_same) (pc := 37) (v := x2 + 1) dX6_same_37 rfl (by rfl) rfl ?_
    refine sn_goto (y := m_X6_same) (pc := 40) (tgt := 19) dX6_same_40 (by decide) ?_
    exact sn_sub rfl (hk19 (x2 + 1))
  refine sn_iconst (y := m_X6_same) (pc := 35) dX6_same_35 kc_iconst_0 ?_
  exact sn_zreturnC (by decide) rfl dX6_same_36
set_option maxRecDepth 100000 in
theorem s_X6_same_l19 {cx : CX} (x0 : (Option Nat)) (x1 : (Option Nat)) (x2 : Int32) : Sn cx m_X6_same eI 19 [(2, vI x2), (0, vA x0), (1, vA x1)] [] (f_X6_same_l19 x0 x1 x2) :=
  sn_lq1 (L := fun x2 => [(2, vI x2), (0, vA x0), (1, vA x1)]) (fun k hk x2 => s_X6_same_b19 x0 x1 hk x2) fuel x2
def f_X6_same (p0 : (Option Nat)) (p1 : (Option Nat)) : Mo Int32 :=
  (if p0 = none then mRt (0 : Int32) else (if p1 = none then mRt (0 : Int32) else mBd (mLen p0) (fun r1 => mBd (mLen p1) (fun r2 => (if r1 = r2 then f_X6_same_l19 p0 p1 (0 : Int32) else mRt (0 : Int32))))))
set_option maxRecDepth 100000 in
theorem s_X6_same {cx : CX} (p0 : (Option Nat)) (p1 : (Option Nat)) : Sn cx m_X6_same eI 0 [(0, vA p0), (1, vA p1)] [] (f_X6_same p0 p1) := by
  refine sn_aload_n (y := m_X6_same) (pc := 0) dX6_same_0 rfl ?_
  refine sn_ifnull (y := m_X6_same) (pc := 1) (tgt := 15) dX6_same_1 (by decide) ?_ ?_
  · refine sn_iconst (y := m_X6_same) (pc := 15) dX6_same_15 kc_iconst_0 ?_
    exact sn_zreturnC (by decide) rfl dX6_same_16
  refine sn_aload_n (y := m_X6_same) (pc := 4) dX6_same_4 rfl ?_
  refine sn_ifnull (y := m_X6_same) (pc := 5) (tgt := 15) dX6_same_5 (by decide) ?_ ?_
  · refine sn_iconst (y := m_X6_same) (pc := 15) dX6_same_15 kc_iconst_0 ?_
    exact sn_zreturnC (by decide) rfl dX6_same_16
  refine sn_aload_n (y := m_X6_same) (pc := 8) dX6_same_8 rfl ?_
  refine sn_alen (y := m_X6_same) (pc := 9) dX6_same_9 (fun r1 => ?_)
  refine sn_aload_n (y := m_X6_same) (pc := 10) dX6_same_10 rfl ?_
  refine sn_alen (y := m_X6_same) (pc := 11) dX6_same_11 (fun r2 => ?_)
  refine sn_icmp_eq (y := m_X6_same) (pc := 12) (tgt := 17) dX6_same_12 (by decide) (fun _ => ?_) (fun _ => ?_)
  · refine sn_iconst (y := m_X6_same) (pc := 17) dX6_same_17 kc_iconst_0 ?_
    refine sn_istore_n (y := m_X6_same) (pc := 18) dX6_same_18 rfl ?_
    exact sn_sub rfl (s_X6_same_l19 p0 p1 (0 : Int32))
  refine sn_iconst (y := m_X6_same) (pc := 15) dX6_same_15 kc_iconst_0 ?_
  exact sn_zreturnC (by decide) rfl dX6_same_16
set_option maxRecDepth 100000 in
theorem c_X6_same (g : Gl) (p0 : (Option Nat)) (p1 : (Option Nat)) : Cn g m_X6_same eI [vA p0, vA p1] (f_X6_same p0 p1) := cn_of_sn (by decide +kernel) rfl (fun r => ⟨r, rfl⟩) rfl (fun _ _ => s_X6_same p0 p1)
/-! X6_isWhole -/
def f_X6_isWhole_b2 (x0 : (Option Nat)) (k2 : Int32 → Mo Int32) (x1 : Int32) : Mo Int32 :=
  (if x0 = none then mRt (1 : Int32) else mBd (mLen x0) (fun r1 => (if x1 ≥ r1 then mRt (1 : Int32) else mBd (mLdJ x0 x1) (fun r2 => (if r2 = (0 : Int64) then k2 (x1 + 1) else mRt (0 : Int32))))))
def f_X6_isWhole_l2 (x0 : (Option Nat)) : Int32 → Mo Int32 := lq1 (f_X6_isWhole_b2 x0) fuel
set_option maxRecDepth 100000 in
theorem s_X6_isWhole_b2 {cx : CX} (x0 : (Option Nat)) {k2 : Int32 → Mo Int32} (hk2 : ∀ (z1 : Int32), Sn cx m_X6_isWhole eI 2 [(1, vI z1), (0, vA x0)] [] (k2 z1)) (x1 : Int32) : Sn cx m_X6_isWhole eI 2 [(1, vI x1), (0, vA x0)] [] (f_X6_isWhole_b2 x0 k2 x1) := by
  refine sn_aload_n (y := m_X6_isWhole) (pc := 2) dX6_isWhole_2 rfl ?_
  refine sn_ifnull (y := m_X6_isWhole) (pc := 3) (tgt := 28) dX6_isWhole_3 (by decide) ?_ ?_
  · refine sn_iconst (y := m_X6_isWhole) (pc := 28) dX6_isWhole_28 kc_iconst_1 ?_
    exact sn_zreturnC (by decide) rfl dX6_isWhole_29
  refine sn_iload_n (y := m_X6_isWhole) (pc := 6) dX6_isWhole_6 rfl ?_
  refine sn_aload_n (y := m_X6_isWhole) (pc := 7) dX6_isWhole_7 rfl ?_
  refine sn_alen (y := m_X6_isWhole) (pc := 8) dX6_isWhole_8 (fun r1 => ?_)
  refine sn_icmp_ge (y := m_X6_isWhole) (pc := 9) (tgt := 28) dX6_isWhole_9 (by decide) (fun _ => ?_) (fun _ => ?_)
  · refine sn_iconst (y := m_X6_isWhole) (pc := 28) dX6_isWhole_28 kc_iconst_1 ?_
    exact sn_zreturnC (by decide) rfl dX6_isWhole_29
  refine sn_aload_n (y := m_X6_isWhole) (pc := 12) dX6_isWhole_12 rfl ?_
  refine sn_iload_n (y := m_X6_isWhole) (pc := 13) dX6_isWhole_13 rfl ?_
  refine sn_laload (y := m_X6_isWhole) (pc := 14) dX6_isWhole_14 (fun r2 => ?_)
  refine sn_lconst (y := m_X6_isWhole) (pc := 15) dX6_isWhole_15 kc_lconst_0 ?_
  refine sn_lc_eq (y := m_X6_isWhole) (pc := 16) (tgt := 22) dX6_isWhole_16 dX6_isWhole_17 (by decide) (fun _ => ?_) (fun _ => ?_)
  · refine sn_iinc (y := m_X6_isWhole) (pc := 22) (v := x1 + 1) dX6_isWhole_22 rfl (by rfl) rfl ?_
    refine sn_goto (y := m_X6_isWhole) (pc := 25) (tgt := 2) dX6_isWhole_25 (by decide) ?_
    exact sn_sub rfl (hk2 (x1 + 1))
  refine sn_iconst (y := m_X6_isWhole) (pc := 20) dX6_isWhole_20 kc_iconst_0 ?_
  exact sn_zreturnC (by decide) rfl dX6_isWhole_21
set_option maxRecDepth 100000 in
theorem s_X6_isWhole_l2 {cx : CX} (x0 : (Option Nat)) (x1 : Int32) : Sn cx m_X6_isWhole eI 2 [(1, vI x1), (0, vA x0)] [] (f_X6_isWhole_l2 x0 x1) :=
  sn_lq1 (L := fun x1 => [(1, vI x1), (0, vA x0)]) (fun k hk x1 => s_X6_isWhole_b2 x0 hk x1) fuel x1
def f_X6_isWhole (p0 : (Option Nat)) : Mo Int32 :=
  f_X6_isWhole_l2 p0 (1 : Int32)
set_option maxRecDepth 100000 in
theorem s_X6_isWhole {cx : CX} (p0 : (Option Nat)) : Sn cx m_X6_isWhole eI 0 [(0, vA p0)] [] (f_X6_isWhole p0) := by
  refine sn_iconst (y := m_X6_isWhole) (pc := 0) dX6_isWhole_0 kc_iconst_1 ?_
  refine sn_istore_n (y := m_X6_isWhole) (pc := 1) dX6_isWhole_1 rfl ?_
  exact sn_sub rfl (s_X6_isWhole_l2 p0 (1 : Int32))
set_option maxRecDepth 100000 in
theorem c_X6_isWhole (g : Gl) (p0 : (Option Nat)) : Cn g m_X6_isWhole eI [vA p0] (f_X6_isWhole p0) := cn_of_sn (by decide +kernel) rfl (fun r => ⟨r, rfl⟩) rfl (fun _ _ => s_X6_isWhole p0)
/-! X7_init -/
def f_X7_init (p0 : (Option Nat)) : Mo Unit :=
  mCk 6 p0 (mBd (mNewA 1 (199 : Int32)) (fun r1 => mBd (mPutA 6 0 p0 r1) (fun _ => mBd (mNewA 1 (199 : Int32)) (fun r2 => mBd (mPutA 6 1 p0 r2) (fun _ => mBd (mPutI 6 2 p0 (0 : Int32)) (fun _ => mRt ()))))))
set_option maxRecDepth 100000 in
theorem s_X7_init {cx : CX} (p0 : (Option Nat)) : Sn cx m_X7_init eV 0 [(0, vA p0)] [] (f_X7_init p0) := by
  refine sn_aload_n (y := m_X7_init) (pc := 0) dX7_init_0 rfl ?_
  refine sn_objInit (y := m_X7_init) (pc := 1) oi_X7_1 oi_1 oi_2 dX7_init_1 rfl ⟨by decide, by decide⟩ ?_
  refine sn_aload_n (y := m_X7_init) (pc := 4) dX7_init_4 rfl ?_
  refine sn_sipush (y := m_X7_init) (pc := 5) dX7_init_5 kc_sipush_199 ?_
  refine sn_newarray (y := m_X7_init) (pc := 8) (t := 1) rfl (Or.inl rfl) ac_int dX7_init_8 (fun r1 => ?_)
  refine sn_putA (y := m_X7_init) (pc := 10) ca_6 rfl fk_X7_9 (Or.inr ⟨rfl, rfl, rfl, fkm_X7_9⟩) rfl dX7_init_10 ?_
  refine sn_aload_n (y := m_X7_init) (pc := 13) dX7_init_13 rfl ?_
  refine sn_sipush (y := m_X7_init) (pc := 14) dX7_init_14 kc_sipush_199 ?_
  refine sn_newarray (y := m_X7_init) (pc := 17) (t := 1) rfl (Or.inl rfl) ac_int dX7_init_17 (fun r2 => ?_)
  refine sn_putA (y := m_X7_init) (pc := 19) ca_6 rfl fk_X7_15 (Or.inr ⟨rfl, rfl, rfl, fkm_X7_15⟩) rfl dX7_init_19 ?_
  refine sn_aload_n (y := m_X7_init) (pc := 22) dX7_init_22 rfl ?_
  refine sn_iconst (y := m_X7_init) (pc := 23) dX7_init_23 kc_iconst_0 ?_
  refine sn_putI (y := m_X7_init) (pc := 24) ca_6 rfl fk_X7_18 (Or.inl rfl) rfl dX7_init_24 ?_
  exact sn_return rfl dX7_init_27
set_option maxRecDepth 100000 in
theorem c_X7_init (g : Gl) (p0 : (Option Nat)) : Cn g m_X7_init eV [vA p0] (mCk 6 p0 (f_X7_init p0)) := cn_of_sn (by decide +kernel) rfl (fun _ => rfl) rfl (fun _ _ => sn_ck (s_X7_init p0))
/-! X7_become -/
def f_X7_become_b27 (x0 : (Option Nat)) (x1 : (Option Nat)) (k27 : Int32 → Mo Unit) (x2 : Int32) : Mo Unit :=
  mBd (mGetI 6 2 x0) (fun r3 => (if x2 ≥ r3 then mRt () else mBd (mGetA 6 0 x0) (fun r4 => mBd (mCk 2 x1 (f_X2_logOf x1 x2)) (fun r5 => (if ¬ (irem r5 (2 : Int32)) = 0 then mBd (f_X6_mark r4 x2 (-1 : Int32)) (fun _ => k27 (x2 + 1)) else mBd (f_X6_mark r4 x2 (1 : Int32)) (fun _ => k27 (x2 + 1)))))))
def f_X7_become_l27 (x0 : (Option Nat)) (x1 : (Option Nat)) : Int32 → Mo Unit := lq1 (f_X7_become_b27 x0 x1) fuel
set_option maxRecDepth 100000 in
theorem s_X7_become_b27 {cx : CX} (x0 : (Option Nat)) (x1 : (Option Nat)) {k27 : Int32 → Mo Unit} (hk27 : ∀ (z2 : Int32), Sn cx m_X7_become eV 27 [(2, vI z2), (0, vA x0), (1, vA x1)] [] (k27 z2)) (x2 : Int32) : Sn cx m_X7_become eV 27 [(2, vI x2), (0, vA x0), (1, vA x1)] [] (f_X7_become_b27 x0 x1 k27 x2) := by
  refine sn_iload_n (y := m_X7_become) (pc := 27) dX7_become_27 rfl ?_
  refine sn_aload_n (y := m_X7_become) (pc := 28) dX7_become_28 rfl ?_
  refine sn_getI (y := m_X7_become) (pc := 29) ca_6 rfl fk_X7_18 (fun _ _ _ => rfl) dX7_become_29 (fun r3 => ?_)
  refine sn_icmp_ge (y := m_X7_become) (pc := 32) (tgt := 64) dX7_become_32 (by decide) (fun _ => ?_) (fun _ => ?_)
  · exact sn_return rfl dX7_become_64
  refine sn_aload_n (y := m_X7_become) (pc := 35) dX7_become_35 rfl ?_
  refine sn_getA (y := m_X7_become) (pc := 36) ca_6 rfl fk_X7_9 (fun _ _ _ => rfl) dX7_become_36 (fun r4 => ?_)
  refine sn_iload_n (y := m_X7_become) (pc := 39) dX7_become_39 rfl ?_
  refine sn_aload_n (y := m_X7_become) (pc := 40) dX7_become_40 rfl ?_
  refine sn_iload_n (y := m_X7_become) (pc := 41) dX7_become_41 rfl ?_
  refine sn_invV (y := m_X7_become) (pc := 42) ca_2 (av := [vI x2]) (o := x1) (st := [vI x2, vA r4]) dX7_become_42 lk_X7_32 im_X2_logOf se_X2_logOf rfl rfl rfl rfl ⟨by decide, by decide⟩ (c_X2_logOf cx.1 x1 x2) (fun r5 => ?_)
  refine sn_iconst (y := m_X7_become) (pc := 45) dX7_become_45 kc_iconst_2 ?_
  refine sn_iremC (y := m_X7_become) (pc := 46) (by decide) dX7_become_46 ?_
  refine sn_if_ne (y := m_X7_become) (pc := 47) (tgt := 54) dX7_become_47 (by decide) (fun _ => ?_) (fun _ => ?_)
  · refine sn_iconst (y := m_X7_become) (pc := 54) dX7_become_54 kc_iconst_m1 ?_
    refine sn_invS (y := m_X7_become) (pc := 55) (av := [vA r4, vI x2, vI (-1 : Int32)]) (st := []) dX7_become_55 lk_X7_26 sw_X6_mark rfl rfl rfl ⟨by decide, by decide⟩ (c_X6_mark cx.1 r4 x2 (-1 : Int32)) (fun _ => ?_)
    refine sn_iinc (y := m_X7_become) (pc := 58) (v := x2 + 1) dX7_become_58 rfl (by rfl) rfl ?_
    refine sn_goto (y := m_X7_become) (pc := 61) (tgt := 27) dX7_become_61 (by decide) ?_
    exact sn_sub rfl (hk27 (x2 + 1))
  refine sn_iconst (y := m_X7_become) (pc := 50) dX7_become_50 kc_iconst_1 ?_
  refine sn_goto (y := m_X7_become) (pc := 51) (tgt := 55) dX7_become_51 (by decide) ?_
  refine sn_invS (y := m_X7_become) (pc := 55) (av := [vA r4, vI x2, vI (1 : Int32)]) (st := []) dX7_become_55 lk_X7_26 sw_X6_mark rfl rfl rfl ⟨by decide, by decide⟩ (c_X6_mark cx.1 r4 x2 (1 : Int32)) (fun _ => ?_)
  refine sn_iinc (y := m_X7_become) (pc := 58) (v := x2 + 1) dX7_become_58 rfl (by rfl) rfl ?_
  refine sn_goto (y := m_X7_become) (pc := 61) (tgt := 27) dX7_become_61 (by decide) ?_
  exact sn_sub rfl (hk27 (x2 + 1))
set_option maxRecDepth 100000 in
theorem s_X7_become_l27 {cx : CX} (x0 : (Option Nat)) (x1 : (Option Nat)) (x2 : Int32) : Sn cx m_X7_become eV 27 [(2, vI x2), (0, vA x0), (1, vA x1)] [] (f_X7_become_l27 x0 x1 x2) :=
  sn_lq1 (L := fun x2 => [(2, vI x2), (0, vA x0), (1, vA x1)]) (fun k hk x2 => s_X7_become_b27 x0 x1 hk x2) fuel x2
def f_X7_become_j13 (x0 : (Option Nat)) (x1 : (Option Nat)) (s0 : Int32) (s1 : (Option Nat)) : Mo Unit :=
  mBd (mPutI 6 2 s1 s0) (fun _ => mBd (mGetA 6 0 x0) (fun r2 => mBd (f_X6_mark r2 (0 : Int32) (1 : Int32)) (fun _ => f_X7_become_l27 x0 x1 (1 : Int32))))
set_option maxRecDepth 100000 in
theorem s_X7_become_j13 {cx : CX} (x0 : (Option Nat)) (x1 : (Option Nat)) (s0 : Int32) (s1 : (Option Nat)) : Sn cx m_X7_become eV 13 [(0, vA x0), (1, vA x1)] [vI s0, vA s1] (f_X7_become_j13 x0 x1 s0 s1) := by
  refine sn_putI (y := m_X7_become) (pc := 13) ca_6 rfl fk_X7_18 (Or.inl rfl) rfl dX7_become_13 ?_
  refine sn_aload_n (y := m_X7_become) (pc := 16) dX7_become_16 rfl ?_
  refine sn_getA (y := m_X7_become) (pc := 17) ca_6 rfl fk_X7_9 (fun _ _ _ => rfl) dX7_become_17 (fun r2 => ?_)
  refine sn_iconst (y := m_X7_become) (pc := 20) dX7_become_20 kc_iconst_0 ?_
  refine sn_iconst (y := m_X7_become) (pc := 21) dX7_become_21 kc_iconst_1 ?_
  refine sn_invS (y := m_X7_become) (pc := 22) (av := [vA r2, vI (0 : Int32), vI (1 : Int32)]) (st := []) dX7_become_22 lk_X7_26 sw_X6_mark rfl rfl rfl ⟨by decide, by decide⟩ (c_X6_mark cx.1 r2 (0 : Int32) (1 : Int32)) (fun _ => ?_)
  refine sn_iconst (y := m_X7_become) (pc := 25) dX7_become_25 kc_iconst_1 ?_
  refine sn_istore_n (y := m_X7_become) (pc := 26) dX7_become_26 rfl ?_
  exact sn_sub rfl (s_X7_become_l27 x0 x1 (1 : Int32))
def f_X7_become (p0 : (Option Nat)) (p1 : (Option Nat)) : Mo Unit :=
  (if p1 = none then f_X7_become_j13 p0 p1 (0 : Int32) p0 else mBd (mCk 2 p1 (f_X2_prime p1)) (fun r1 => f_X7_become_j13 p0 p1 r1 p0))
set_option maxRecDepth 100000 in
theorem s_X7_become {cx : CX} (p0 : (Option Nat)) (p1 : (Option Nat)) : Sn cx m_X7_become eV 0 [(0, vA p0), (1, vA p1)] [] (f_X7_become p0 p1) := by
  refine sn_aload_n (y := m_X7_become) (pc := 0) dX7_become_0 rfl ?_
  refine sn_aload_n (y := m_X7_become) (pc := 1) dX7_become_1 rfl ?_
  refine sn_ifnonnull (y := m_X7_become) (pc := 2) (tgt := 9) dX7_become_2 (by decide) ?_ ?_
  · refine sn_iconst (y := m_X7_become) (pc := 5) dX7_become_5 kc_iconst_0 ?_
    refine sn_goto (y := m_X7_become) (pc := 6) (tgt := 13) dX7_become_6 (by decide) ?_
    exact sn_sub rfl (s_X7_become_j13 p0 p1 (0 : Int32) p0)
  refine sn_aload_n (y := m_X7_become) (pc := 9) dX7_become_9 rfl ?_
  refine sn_invV (y := m_X7_become) (pc := 10) ca_2 (av := []) (o := p1) (st := [vA p0]) dX7_become_10 lk_X7_22 im_X2_prime se_X2_prime rfl rfl rfl rfl ⟨by decide, by decide⟩ (c_X2_prime cx.1 p1) (fun r1 => ?_)
  exact sn_sub rfl (s_X7_become_j13 p0 p1 r1 p0)
set_option maxRecDepth 100000 in
theorem c_X7_become (g : Gl) (p0 : (Option Nat)) (p1 : (Option Nat)) : Cn g m_X7_become eV [vA p0, vA p1] (mCk 6 p0 (f_X7_become p0 p1)) := cn_of_sn (by decide +kernel) rfl (fun _ => rfl) rfl (fun _ _ => sn_ck (s_X7_become p0 p1))
/-! X7_signAt -/
def f_X7_signAt (p0 : (Option Nat)) (p1 : Int32) : Mo Int32 :=
  mBd (mGetA 6 0 p0) (fun r1 => mBd (mGetI 6 2 p0) (fun r2 => (if p1 ≥ r2 then mBd (mGetI 6 2 p0) (fun r3 => mBd (f_X6_cell r1 (p1 - r3)) (fun r4 => mRt r4)) else mBd (f_X6_cell r1 p1) (fun r5 => mRt r5))))
set_option maxRecDepth 100000 in
theorem s_X7_signAt {cx : CX} (p0 : (Option Nat)) (p1 : Int32) : Sn cx m_X7_signAt eI 0 [(0, vA p0), (1, vI p1)] [] (f_X7_signAt p0 p1) := by
  refine sn_aload_n (y := m_X7_signAt) (pc := 0) dX7_signAt_0 rfl ?_
  refine sn_getA (y := m_X7_signAt) (pc := 1) ca_6 rfl fk_X7_9 (fun _ _ _ => rfl) dX7_signAt_1 (fun r1 => ?_)
  refine sn_iload_n (y := m_X7_signAt) (pc := 4) dX7_signAt_4 rfl ?_
  refine sn_aload_n (y := m_X7_signAt) (pc := 5) dX7_signAt_5 rfl ?_
  refine sn_getI (y := m_X7_signAt) (pc := 6) ca_6 rfl fk_X7_18 (fun _ _ _ => rfl) dX7_signAt_6 (fun r2 => ?_)
  refine sn_icmp_ge (y := m_X7_signAt) (pc := 9) (tgt := 16) dX7_signAt_9 (by decide) (fun _ => ?_) (fun _ => ?_)
  · refine sn_iload_n (y := m_X7_signAt) (pc := 16) dX7_signAt_16 rfl ?_
    refine sn_aload_n (y := m_X7_signAt) (pc := 17) dX7_signAt_17 rfl ?_
    refine sn_getI (y := m_X7_signAt) (pc := 18) ca_6 rfl fk_X7_18 (fun _ _ _ => rfl) dX7_signAt_18 (fun r3 => ?_)
    refine sn_isub (y := m_X7_signAt) (pc := 21) dX7_signAt_21 ?_
    refine sn_invS (y := m_X7_signAt) (pc := 22) (av := [vA r1, vI (p1 - r3)]) (st := []) dX7_signAt_22 lk_X7_36 sw_X6_cell rfl rfl rfl ⟨by decide, by decide⟩ (c_X6_cell cx.1 r1 (p1 - r3)) (fun r4 => ?_)
    exact sn_ireturn rfl dX7_signAt_25
  refine sn_iload_n (y := m_X7_signAt) (pc := 12) dX7_signAt_12 rfl ?_
  refine sn_goto (y := m_X7_signAt) (pc := 13) (tgt := 22) dX7_signAt_13 (by decide) ?_
  refine sn_invS (y := m_X7_signAt) (pc := 22) (av := [vA r1, vI p1]) (st := []) dX7_signAt_22 lk_X7_36 sw_X6_cell rfl rfl rfl ⟨by decide, by decide⟩ (c_X6_cell cx.1 r1 p1) (fun r5 => ?_)
  exact sn_ireturn rfl dX7_signAt_25
set_option maxRecDepth 100000 in
theorem c_X7_signAt (g : Gl) (p0 : (Option Nat)) (p1 : Int32) : Cn g m_X7_signAt eI [vA p0, vI p1] (mCk 6 p0 (f_X7_signAt p0 p1)) := cn_of_sn (by decide +kernel) rfl (fun r => ⟨r, rfl⟩) rfl (fun _ _ => sn_ck (s_X7_signAt p0 p1))
/-! X7_echoAt -/
def f_X7_echoAt_b5 (x0 : (Option Nat)) (x1 : Int32) (x2 : Int32) (k5 : Int32 → Int32 → Mo Int32) (x3 : Int32) (x4 : Int32) : Mo Int32 :=
  mBd (mGetI 6 2 x0) (fun r1 => (if (x4 + x2) ≥ r1 then mRt x3 else mBd (mGetI 6 2 x0) (fun r2 => mBd (f_X6_mod ((x1 + x4).toInt64) r2) (fun r3 => mBd (mCk 6 x0 (f_X7_signAt x0 r3)) (fun r4 => mBd (mGetI 6 2 x0) (fun r5 => mBd (f_X6_mod (((x1 + x4) + x2).toInt64) r5) (fun r6 => mBd (mCk 6 x0 (f_X7_signAt x0 r6)) (fun r7 => mNm (x3 + (r4 * r7)) (fun n8 => k5 n8 (x4 + 1))))))))))
def f_X7_echoAt_l5 (x0 : (Option Nat)) (x1 : Int32) (x2 : Int32) : Int32 → Int32 → Mo Int32 := lq2 (f_X7_echoAt_b5 x0 x1 x2) fuel
set_option maxRecDepth 100000 in
theorem s_X7_echoAt_b5 {cx : CX} (x0 : (Option Nat)) (x1 : Int32) (x2 : Int32) {k5 : Int32 → Int32 → Mo Int32} (hk5 : ∀ (z3 : Int32) (z4 : Int32), Sn cx m_X7_echoAt eI 5 [(3, vI z3), (4, vI z4), (0, vA x0), (1, vI x1), (2, vI x2)] [] (k5 z3 z4)) (x3 : Int32) (x4 : Int32) : Sn cx m_X7_echoAt eI 5 [(3, vI x3), (4, vI x4), (0, vA x0), (1, vI x1), (2, vI x2)] [] (f_X7_echoAt_b5 x0 x1 x2 k5 x3 x4) := by
  refine sn_iload (y := m_X7_echoAt) (pc := 5) dX7_echoAt_5 rfl ?_
  refine sn_iload_n (y := m_X7_echoAt) (pc := 7) dX7_echoAt_7 rfl ?_
  refine sn_iadd (y := m_X7_echoAt) (pc := 8) dX7_echoAt_8 ?_
  refine sn_aload_n (y := m_X7_echoAt) (pc := 9) dX7_echoAt_9 rfl ?_
  refine sn_getI (y := m_X7_echoAt) (pc := 10) ca_6 rfl fk_X7_18 (fun _ _ _ => rfl) dX7_echoAt_10 (fun r1 => ?_)
  refine sn_icmp_ge (y := m_X7_echoAt) (pc := 13) (tgt := 60) dX7_echoAt_13 (by decide) (fun _ => ?_) (fun _ => ?_)
  · refine sn_iload_n (y := m_X7_echoAt) (pc := 60) dX7_echoAt_60 rfl ?_
    exact sn_ireturn rfl dX7_echoAt_61
  refine sn_iload_n (y := m_X7_echoAt) (pc := 16) dX7_echoAt_16 rfl ?_
  refine sn_aload_n (y := m_X7_echoAt) (pc := 17) dX7_echoAt_17 rfl ?_
  refine sn_iload_n (y := m_X7_echoAt) (pc := 18) dX7_echoAt_18 rfl ?_
  refine sn_iload (y := m_X7_echoAt) (pc := 19) dX7_echoAt_19 rfl ?_
  refine sn_iadd (y := m_X7_echoAt) (pc := 21) dX7_echoAt_21 ?_
  refine sn_i2l (y := m_X7_echoAt) (pc := 22) dX7_echoAt_22 ?_
  refine sn_aload_n (y := m_X7_echoAt) (pc := 23) dX7_echoAt_23 rfl ?_
  refine sn_getI (y := m_X7_echoAt) (pc := 24) ca_6 rfl fk_X7_18 (fun _ _ _ => rfl) dX7_echoAt_24 (fun r2 => ?_)
  refine sn_invS (y := m_X7_echoAt) (pc := 27) (av := [vJ ((x1 + x4).toInt64), vI r2]) (st := [vA x0, vI x3]) dX7_echoAt_27 lk_X7_40 sw_X6_mod rfl rfl rfl ⟨by decide, by decide⟩ (c_X6_mod cx.1 ((x1 + x4).toInt64) r2) (fun r3 => ?_)
  refine sn_invV (y := m_X7_echoAt) (pc := 30) ca_6 (av := [vI r3]) (o := x0) (st := [vI x3]) dX7_echoAt_30 lk_X7_44 im_X7_signAt se_X7_signAt rfl rfl rfl rfl ⟨by decide, by decide⟩ (c_X7_signAt cx.1 x0 r3) (fun r4 => ?_)
  refine sn_aload_n (y := m_X7_echoAt) (pc := 33) dX7_echoAt_33 rfl ?_
  refine sn_iload_n (y := m_X7_echoAt) (pc := 34) dX7_echoAt_34 rfl ?_
  refine sn_iload (y := m_X7_echoAt) (pc := 35) dX7_echoAt_35 rfl ?_
  refine sn_iadd (y := m_X7_echoAt) (pc := 37) dX7_echoAt_37 ?_
  refine sn_iload_n (y := m_X7_echoAt) (pc := 38) dX7_echoAt_38 rfl ?_
  refine sn_iadd (y := m_X7_echoAt) (pc := 39) dX7_echoAt_39 ?_
  refine sn_i2l (y := m_X7_echoAt) (pc := 40) dX7_echoAt_40 ?_
  refine sn_aload_n (y := m_X7_echoAt) (pc := 41) dX7_echoAt_41 rfl ?_
  refine sn_getI (y := m_X7_echoAt) (pc := 42) ca_6 rfl fk_X7_18 (fun _ _ _ => rfl) dX7_echoAt_42 (fun r5 => ?_)
  refine sn_invS (y := m_X7_echoAt) (pc := 45) (av := [vJ (((x1 + x4) + x2).toInt64), vI r5]) (st := [vA x0, vI r4, vI x3]) dX7_echoAt_45 lk_X7_40 sw_X6_mod rfl rfl rfl ⟨by decide, by decide⟩ (c_X6_mod cx.1 (((x1 + x4) + x2).toInt64) r5) (fun r6 => ?_)
  refine sn_invV (y := m_X7_echoAt) (pc := 48) ca_6 (av := [vI r6]) (o := x0) (st := [vI r4, vI x3]) dX7_echoAt_48 lk_X7_44 im_X7_signAt se_X7_signAt rfl rfl rfl rfl ⟨by decide, by decide⟩ (c_X7_signAt cx.1 x0 r6) (fun r7 => ?_)
  refine sn_imul (y := m_X7_echoAt) (pc := 51) dX7_echoAt_51 ?_
  refine sn_iadd (y := m_X7_echoAt) (pc := 52) dX7_echoAt_52 ?_
  refine sn_istore_nM (y := m_X7_echoAt) (pc := 53) dX7_echoAt_53 rfl (fun n8 => ?_)
  refine sn_iinc (y := m_X7_echoAt) (pc := 54) (v := x4 + 1) dX7_echoAt_54 rfl (by rfl) rfl ?_
  refine sn_goto (y := m_X7_echoAt) (pc := 57) (tgt := 5) dX7_echoAt_57 (by decide) ?_
  exact sn_sub rfl (hk5 n8 (x4 + 1))
set_option maxRecDepth 100000 in
theorem s_X7_echoAt_l5 {cx : CX} (x0 : (Option Nat)) (x1 : Int32) (x2 : Int32) (x3 : Int32) (x4 : Int32) : Sn cx m_X7_echoAt eI 5 [(3, vI x3), (4, vI x4), (0, vA x0), (1, vI x1), (2, vI x2)] [] (f_X7_echoAt_l5 x0 x1 x2 x3 x4) :=
  sn_lq2 (L := fun x3 x4 => [(3, vI x3), (4, vI x4), (0, vA x0), (1, vI x1), (2, vI x2)]) (fun k hk x3 x4 => s_X7_echoAt_b5 x0 x1 x2 hk x3 x4) fuel x3 x4
def f_X7_echoAt (p0 : (Option Nat)) (p1 : Int32) (p2 : Int32) : Mo Int32 :=
  f_X7_echoAt_l5 p0 p1 p2 (0 : Int32) (0 : Int32)
set_option maxRecDepth 100000 in
theorem s_X7_echoAt {cx : CX} (p0 : (Option Nat)) (p1 : Int32) (p2 : Int32) : Sn cx m_X7_echoAt eI 0 [(0, vA p0), (1, vI p1), (2, vI p2)] [] (f_X7_echoAt p0 p1 p2) := by
  refine sn_iconst (y := m_X7_echoAt) (pc := 0) dX7_echoAt_0 kc_iconst_0 ?_
  refine sn_istore_n (y := m_X7_echoAt) (pc := 1) dX7_echoAt_1 rfl ?_
  refine sn_iconst (y := m_X7_echoAt) (pc := 2) dX7_echoAt_2 kc_iconst_0 ?_
  refine sn_istore (y := m_X7_echoAt) (pc := 3) dX7_echoAt_3 rfl ?_
  exact sn_sub rfl (s_X7_echoAt_l5 p0 p1 p2 (0 : Int32) (0 : Int32))
set_option maxRecDepth 100000 in
theorem c_X7_echoAt (g : Gl) (p0 : (Option Nat)) (p1 : Int32) (p2 : Int32) : Cn g m_X7_echoAt eI [vA p0, vI p1, vI p2] (mCk 6 p0 (f_X7_echoAt p0 p1 p2)) := cn_of_sn (by decide +kernel) rfl (fun r => ⟨r, rfl⟩) rfl (fun _ _ => sn_ck (s_X7_echoAt p0 p1 p2))
/-! X7_noiseAt -/
def f_X7_noiseAt_b5 (x0 : (Option Nat)) (x1 : Int32) (k5 : Int64 → Int32 → Mo Int64) (x2 : Int64) (x4 : Int32) : Mo Int64 :=
  mBd (mGetI 6 2 x0) (fun r1 => (if x4 ≥ r1 then mRt x2 else mBd (mCk 6 x0 (f_X7_echoAt x0 x1 x4)) (fun r2 => mNm (r2.toInt64) (fun n3 => mNm (x2 + (n3 * n3)) (fun n4 => k5 n4 (x4 + 1))))))
def f_X7_noiseAt_l5 (x0 : (Option Nat)) (x1 : Int32) : Int64 → Int32 → Mo Int64 := lq2 (f_X7_noiseAt_b5 x0 x1) fuel
set_option maxRecDepth 100000 in
theorem s_X7_noiseAt_b5 {cx : CX} (x0 : (Option Nat)) (x1 : Int32) {k5 : Int64 → Int32 → Mo Int64} (hk5 : ∀ (z2 : Int64) (z4 : Int32), Sn cx m_X7_noiseAt eJ 5 [(2, vJ z2), (4, vI z4), (0, vA x0), (1, vI x1)] [] (k5 z2 z4)) (x2 : Int64) (x4 : Int32) : Sn cx m_X7_noiseAt eJ 5 [(2, vJ x2), (4, vI x4), (0, vA x0), (1, vI x1)] [] (f_X7_noiseAt_b5 x0 x1 k5 x2 x4) := by
  refine sn_iload (y := m_X7_noiseAt) (pc := 5) dX7_noiseAt_5 rfl ?_
  refine sn_aload_n (y := m_X7_noiseAt) (pc := 7) dX7_noiseAt_7 rfl ?_
  refine sn_getI (y := m_X7_noiseAt) (pc := 8) ca_6 rfl fk_X7_18 (fun _ _ _ => rfl) dX7_noiseAt_8 (fun r1 => ?_)
  refine sn_icmp_ge (y := m_X7_noiseAt) (pc := 11) (tgt := 38) dX7_noiseAt_11 (by decide) (fun _ => ?_) (fun _ => ?_)
  · refine sn_lload_n (y := m_X7_noiseAt) (pc := 38) dX7_noiseAt_38 rfl ?_
    exact sn_lreturn rfl dX7_noiseAt_39
  refine sn_aload_n (y := m_X7_noiseAt) (pc := 14) dX7_noiseAt_14 rfl ?_
  refine sn_iload_n (y := m_X7_noiseAt) (pc := 15) dX7_noiseAt_15 rfl ?_
  refine sn_iload (y := m_X7_noiseAt) (pc := 16) dX7_noiseAt_16 rfl ?_
  refine sn_invV (y := m_X7_noiseAt) (pc := 18) ca_6 (av := [vI x1, vI x4]) (o := x0) (st := []) dX7_noiseAt_18 lk_X7_47 im_X7_echoAt se_X7_echoAt rfl rfl rfl rfl ⟨by decide, by decide⟩ (c_X7_echoAt cx.1 x0 x1 x4) (fun r2 => ?_)
  refine sn_i2l (y := m_X7_noiseAt) (pc := 21) dX7_noiseAt_21 ?_
  refine sn_lstoreM (y := m_X7_noiseAt) (pc := 22) dX7_noiseAt_22 rfl (fun n3 => ?_)
  refine sn_lload_n (y := m_X7_noiseAt) (pc := 24) dX7_noiseAt_24 rfl ?_
  refine sn_lload (y := m_X7_noiseAt) (pc := 25) dX7_noiseAt_25 rfl ?_
  refine sn_lload (y := m_X7_noiseAt) (pc := 27) dX7_noiseAt_27 rfl ?_
  refine sn_lmul (y := m_X7_noiseAt) (pc := 29) dX7_noiseAt_29 ?_
  refine sn_ladd (y := m_X7_noiseAt) (pc := 30) dX7_noiseAt_30 ?_
  refine sn_lstore_nM (y := m_X7_noiseAt) (pc := 31) dX7_noiseAt_31 rfl (fun n4 => ?_)
  refine sn_iinc (y := m_X7_noiseAt) (pc := 32) (v := x4 + 1) dX7_noiseAt_32 rfl (by rfl) rfl ?_
  refine sn_goto (y := m_X7_noiseAt) (pc := 35) (tgt := 5) dX7_noiseAt_35 (by decide) ?_
  exact sn_sub rfl (hk5 n4 (x4 + 1))
set_option maxRecDepth 100000 in
theorem s_X7_noiseAt_l5 {cx : CX} (x0 : (Option Nat)) (x1 : Int32) (x2 : Int64) (x4 : Int32) : Sn cx m_X7_noiseAt eJ 5 [(2, vJ x2), (4, vI x4), (0, vA x0), (1, vI x1)] [] (f_X7_noiseAt_l5 x0 x1 x2 x4) :=
  sn_lq2 (L := fun x2 x4 => [(2, vJ x2), (4, vI x4), (0, vA x0), (1, vI x1)]) (fun k hk x2 x4 => s_X7_noiseAt_b5 x0 x1 hk x2 x4) fuel x2 x4
def f_X7_noiseAt (p0 : (Option Nat)) (p1 : Int32) : Mo Int64 :=
  f_X7_noiseAt_l5 p0 p1 (0 : Int64) (1 : Int32)
set_option maxRecDepth 100000 in
theorem s_X7_noiseAt {cx : CX} (p0 : (Option Nat)) (p1 : Int32) : Sn cx m_X7_noiseAt eJ 0 [(0, vA p0), (1, vI p1)] [] (f_X7_noiseAt p0 p1) := by
  refine sn_lconst (y := m_X7_noiseAt) (pc := 0) dX7_noiseAt_0 kc_lconst_0 ?_
  refine sn_lstore_n (y := m_X7_noiseAt) (pc := 1) dX7_noiseAt_1 rfl ?_
  refine sn_iconst (y := m_X7_noiseAt) (pc := 2) dX7_noiseAt_2 kc_iconst_1 ?_
  refine sn_istore (y := m_X7_noiseAt) (pc := 3) dX7_noiseAt_3 rfl ?_
  exact sn_sub rfl (s_X7_noiseAt_l5 p0 p1 (0 : Int64) (1 : Int32))
set_option maxRecDepth 100000 in
theorem c_X7_noiseAt (g : Gl) (p0 : (Option Nat)) (p1 : Int32) : Cn g m_X7_noiseAt eJ [vA p0, vI p1] (mCk 6 p0 (f_X7_noiseAt p0 p1)) := cn_of_sn (by decide +kernel) rfl (fun r => ⟨r, rfl⟩) rfl (fun _ _ => sn_ck (s_X7_noiseAt p0 p1))
/-! X7_noiseOfEchoes -/
def f_X7_noiseOfEchoes_b4 (x0 : (Option Nat)) (k4 : Int64 → Int32 → Mo Int64) (x1 : Int64) (x3 : Int32) : Mo Int64 :=
  mBd (mGetI 6 2 x0) (fun r1 => (if x3 ≥ r1 then mRt x1 else mBd (mGetA 6 1 x0) (fun r2 => mBd (f_X6_cell r2 x3) (fun r3 => mNm (r3.toInt64) (fun n4 => mNm (x1 + (n4 * n4)) (fun n5 => k4 n5 (x3 + 1)))))))
def f_X7_noiseOfEchoes_l4 (x0 : (Option Nat)) : Int64 → Int32 → Mo Int64 := lq2 (f_X7_noiseOfEchoes_b4 x0) fuel
set_option maxRecDepth 100000 in
theorem s_X7_noiseOfEchoes_b4 {cx : CX} (x0 : (Option Nat)) {k4 : Int64 → Int32 → Mo Int64} (hk4 : ∀ (z1 : Int64) (z3 : Int32), Sn cx m_X7_noiseOfEchoes eJ 4 [(1, vJ z1), (3, vI z3), (0, vA x0)] [] (k4 z1 z3)) (x1 : Int64) (x3 : Int32) : Sn cx m_X7_noiseOfEchoes eJ 4 [(1, vJ x1), (3, vI x3), (0, vA x0)] [] (f_X7_noiseOfEchoes_b4 x0 k4 x1 x3) := by
  refine sn_iload_n (y := m_X7_noiseOfEchoes) (pc := 4) dX7_noiseOfEchoes_4 rfl ?_
  refine sn_aload_n (y := m_X7_noiseOfEchoes) (pc := 5) dX7_noiseOfEchoes_5 rfl ?_
  refine sn_getI (y := m_X7_noiseOfEchoes) (pc := 6) ca_6 rfl fk_X7_18 (fun _ _ _ => rfl) dX7_noiseOfEchoes_6 (fun r1 => ?_)
  refine sn_icmp_ge (y := m_X7_noiseOfEchoes) (pc := 9) (tgt := 37) dX7_noiseOfEchoes_9 (by decide) (fun _ => ?_) (fun _ => ?_)
  · refine sn_lload_n (y := m_X7_noiseOfEchoes) (pc := 37) dX7_noiseOfEchoes_37 rfl ?_
    exact sn_lreturn rfl dX7_noiseOfEchoes_38
  refine sn_aload_n (y := m_X7_noiseOfEchoes) (pc := 12) dX7_noiseOfEchoes_12 rfl ?_
  refine sn_getA (y := m_X7_noiseOfEchoes) (pc := 13) ca_6 rfl fk_X7_15 (fun _ _ _ => rfl) dX7_noiseOfEchoes_13 (fun r2 => ?_)
  refine sn_iload_n (y := m_X7_noiseOfEchoes) (pc := 16) dX7_noiseOfEchoes_16 rfl ?_
  refine sn_invS (y := m_X7_noiseOfEchoes) (pc := 17) (av := [vA r2, vI x3]) (st := []) dX7_noiseOfEchoes_17 lk_X7_36 sw_X6_cell rfl rfl rfl ⟨by decide, by decide⟩ (c_X6_cell cx.1 r2 x3) (fun r3 => ?_)
  refine sn_i2l (y := m_X7_noiseOfEchoes) (pc := 20) dX7_noiseOfEchoes_20 ?_
  refine sn_lstoreM (y := m_X7_noiseOfEchoes) (pc := 21) dX7_noiseOfEchoes_21 rfl (fun n4 => ?_)
  refine sn_lload_n (y := m_X7_noiseOfEchoes) (pc := 23) dX7_noiseOfEchoes_23 rfl ?_
  refine sn_lload (y := m_X7_noiseOfEchoes) (pc := 24) dX7_noiseOfEchoes_24 rfl ?_
  refine sn_lload (y := m_X7_noiseOfEchoes) (pc := 26) dX7_noiseOfEchoes_26 rfl ?_
  refine sn_lmul (y := m_X7_noiseOfEchoes) (pc := 28) dX7_noiseOfEchoes_28 ?_
  refine sn_ladd (y := m_X7_noiseOfEchoes) (pc := 29) dX7_noiseOfEchoes_29 ?_
  refine sn_lstore_nM (y := m_X7_noiseOfEchoes) (pc := 30) dX7_noiseOfEchoes_30 rfl (fun n5 => ?_)
  refine sn_iinc (y := m_X7_noiseOfEchoes) (pc := 31) (v := x3 + 1) dX7_noiseOfEchoes_31 rfl (by rfl) rfl ?_
  refine sn_goto (y := m_X7_noiseOfEchoes) (pc := 34) (tgt := 4) dX7_noiseOfEchoes_34 (by decide) ?_
  exact sn_sub rfl (hk4 n5 (x3 + 1))
set_option maxRecDepth 100000 in
theorem s_X7_noiseOfEchoes_l4 {cx : CX} (x0 : (Option Nat)) (x1 : Int64) (x3 : Int32) : Sn cx m_X7_noiseOfEchoes eJ 4 [(1, vJ x1), (3, vI x3), (0, vA x0)] [] (f_X7_noiseOfEchoes_l4 x0 x1 x3) :=
  sn_lq2 (L := fun x1 x3 => [(1, vJ x1), (3, vI x3), (0, vA x0)]) (fun k hk x1 x3 => s_X7_noiseOfEchoes_b4 x0 hk x1 x3) fuel x1 x3
def f_X7_noiseOfEchoes (p0 : (Option Nat)) : Mo Int64 :=
  f_X7_noiseOfEchoes_l4 p0 (0 : Int64) (1 : Int32)
set_option maxRecDepth 100000 in
theorem s_X7_noiseOfEchoes {cx : CX} (p0 : (Option Nat)) : Sn cx m_X7_noiseOfEchoes eJ 0 [(0, vA p0)] [] (f_X7_noiseOfEchoes p0) := by
  refine sn_lconst (y := m_X7_noiseOfEchoes) (pc := 0) dX7_noiseOfEchoes_0 kc_lconst_0 ?_
  refine sn_lstore_n (y := m_X7_noiseOfEchoes) (pc := 1) dX7_noiseOfEchoes_1 rfl ?_
  refine sn_iconst (y := m_X7_noiseOfEchoes) (pc := 2) dX7_noiseOfEchoes_2 kc_iconst_1 ?_
  refine sn_istore_n (y := m_X7_noiseOfEchoes) (pc := 3) dX7_noiseOfEchoes_3 rfl ?_
  exact sn_sub rfl (s_X7_noiseOfEchoes_l4 p0 (0 : Int64) (1 : Int32))
set_option maxRecDepth 100000 in
theorem c_X7_noiseOfEchoes (g : Gl) (p0 : (Option Nat)) : Cn g m_X7_noiseOfEchoes eJ [vA p0] (mCk 6 p0 (f_X7_noiseOfEchoes p0)) := cn_of_sn (by decide +kernel) rfl (fun r => ⟨r, rfl⟩) rfl (fun _ _ => sn_ck (s_X7_noiseOfEchoes p0))
/-! X7_passOn -/
def f_X7_passOn_b2 (x0 : (Option Nat)) (x1 : Int32) (k2 : Int32 → Mo Unit) (x2 : Int32) : Mo Unit :=
  mBd (mGetI 6 2 x0) (fun r1 => (if x2 ≥ r1 then mRt () else mBd (mCk 6 x0 (f_X7_signAt x0 x1)) (fun r2 => mBd (mGetI 6 2 x0) (fun r3 => mBd (mCk 6 x0 (f_X7_signAt x0 ((x1 + r3) - x2))) (fun r4 => mBd (mCk 6 x0 (f_X7_signAt x0 (x1 + x2))) (fun r5 => mNm (r2 * (r4 - r5)) (fun n6 => mBd (mGetA 6 1 x0) (fun r7 => mBd (mGetA 6 1 x0) (fun r8 => mBd (f_X6_cell r8 x2) (fun r9 => mBd (f_X6_mark r7 x2 (r9 + n6)) (fun _ => k2 (x2 + 1))))))))))))
def f_X7_passOn_l2 (x0 : (Option Nat)) (x1 : Int32) : Int32 → Mo Unit := lq1 (f_X7_passOn_b2 x0 x1) fuel
set_option maxRecDepth 100000 in
theorem s_X7_passOn_b2 {cx : CX} (x0 : (Option Nat)) (x1 : Int32) {k2 : Int32 → Mo Unit} (hk2 : ∀ (z2 : Int32), Sn cx m_X7_passOn eV 2 [(2, vI z2), (0, vA x0), (1, vI x1)] [] (k2 z2)) (x2 : Int32) : Sn cx m_X7_passOn eV 2 [(2, vI x2), (0, vA x0), (1, vI x1)] [] (f_X7_passOn_b2 x0 x1 k2 x2) := by
  refine sn_iload_n (y := m_X7_passOn) (pc := 2) dX7_passOn_2 rfl ?_
  refine sn_aload_n (y := m_X7_passOn) (pc := 3) dX7_passOn_3 rfl ?_
  refine sn_getI (y := m_X7_passOn) (pc := 4) ca_6 rfl fk_X7_18 (fun _ _ _ => rfl) dX7_passOn_4 (fun r1 => ?_)
  refine sn_icmp_ge (y := m_X7_passOn) (pc := 7) (tgt := 61) dX7_passOn_7 (by decide) (fun _ => ?_) (fun _ => ?_)
  · exact sn_return rfl dX7_passOn_61
  refine sn_aload_n (y := m_X7_passOn) (pc := 10) dX7_passOn_10 rfl ?_
  refine sn_iload_n (y := m_X7_passOn) (pc := 11) dX7_passOn_11 rfl ?_
  refine sn_invV (y := m_X7_passOn) (pc := 12) ca_6 (av := [vI x1]) (o := x0) (st := []) dX7_passOn_12 lk_X7_44 im_X7_signAt se_X7_signAt rfl rfl rfl rfl ⟨by decide, by decide⟩ (c_X7_signAt cx.1 x0 x1) (fun r2 => ?_)
  refine sn_aload_n (y := m_X7_passOn) (pc := 15) dX7_passOn_15 rfl ?_
  refine sn_iload_n (y := m_X7_passOn) (pc := 16) dX7_passOn_16 rfl ?_
  refine sn_aload_n (y := m_X7_passOn) (pc := 17) dX7_passOn_17 rfl ?_
  refine sn_getI (y := m_X7_passOn) (pc := 18) ca_6 rfl fk_X7_18 (fun _ _ _ => rfl) dX7_passOn_18 (fun r3 => ?_)
  refine sn_iadd (y := m_X7_passOn) (pc := 21) dX7_passOn_21 ?_
  refine sn_iload_n (y := m_X7_passOn) (pc := 22) dX7_passOn_22 rfl ?_
  refine sn_isub (y := m_X7_passOn) (pc := 23) dX7_passOn_23 ?_
  refine sn_invV (y := m_X7_passOn) (pc := 24) ca_6 (av := [vI ((x1 + r3) - x2)]) (o := x0) (st := [vI r2]) dX7_passOn_24 lk_X7_44 im_X7_signAt se_X7_signAt rfl rfl rfl rfl ⟨by decide, by decide⟩ (c_X7_signAt cx.1 x0 ((x1 + r3) - x2)) (fun r4 => ?_)
  refine sn_aload_n (y := m_X7_passOn) (pc := 27) dX7_passOn_27 rfl ?_
  refine sn_iload_n (y := m_X7_passOn) (pc := 28) dX7_passOn_28 rfl ?_
  refine sn_iload_n (y := m_X7_passOn) (pc := 29) dX7_passOn_29 rfl ?_
  refine sn_iadd (y := m_X7_passOn) (pc := 30) dX7_passOn_30 ?_
  refine sn_invV (y := m_X7_passOn) (pc := 31) ca_6 (av := [vI (x1 + x2)]) (o := x0) (st := [vI r4, vI r2]) dX7_passOn_31 lk_X7_44 im_X7_signAt se_X7_signAt rfl rfl rfl rfl ⟨by decide, by decide⟩ (c_X7_signAt cx.1 x0 (x1 + x2)) (fun r5 => ?_)
  refine sn_isub (y := m_X7_passOn) (pc := 34) dX7_passOn_34 ?_
  refine sn_imul (y := m_X7_passOn) (pc := 35) dX7_passOn_35 ?_
  refine sn_istore_nM (y := m_X7_passOn) (pc := 36) dX7_passOn_36 rfl (fun n6 => ?_)
  refine sn_aload_n (y := m_X7_passOn) (pc := 37) dX7_passOn_37 rfl ?_
  refine sn_getA (y := m_X7_passOn) (pc := 38) ca_6 rfl fk_X7_15 (fun _ _ _ => rfl) dX7_passOn_38 (fun r7 => ?_)
  refine sn_iload_n (y := m_X7_passOn) (pc := 41) dX7_passOn_41 rfl ?_
  refine sn_aload_n (y := m_X7_passOn) (pc := 42) dX7_passOn_42 rfl ?_
  refine sn_getA (y := m_X7_passOn) (pc := 43) ca_6 rfl fk_X7_15 (fun _ _ _ => rfl) dX7_passOn_43 (fun r8 => ?_)
  refine sn_iload_n (y := m_X7_passOn) (pc := 46) dX7_passOn_46 rfl ?_
  refine sn_invS (y := m_X7_passOn) (pc := 47) (av := [vA r8, vI x2]) (st := [vI x2, vA r7]) dX7_passOn_47 lk_X7_36 sw_X6_cell rfl rfl rfl ⟨by decide, by decide⟩ (c_X6_cell cx.1 r8 x2) (fun r9 => ?_)
  refine sn_iload_n (y := m_X7_passOn) (pc := 50) dX7_passOn_50 rfl ?_
  refine sn_iadd (y := m_X7_passOn) (pc := 51) dX7_passOn_51 ?_
  refine sn_invS (y := m_X7_passOn) (pc := 52) (av := [vA r7, vI x2, vI (r9 + n6)]) (st := []) dX7_passOn_52 lk_X7_26 sw_X6_mark rfl rfl rfl ⟨by decide, by decide⟩ (c_X6_mark cx.1 r7 x2 (r9 + n6)) (fun _ => ?_)
  refine sn_iinc (y := m_X7_passOn) (pc := 55) (v := x2 + 1) dX7_passOn_55 rfl (by rfl) rfl ?_
  refine sn_goto (y := m_X7_passOn) (pc := 58) (tgt := 2) dX7_passOn_58 (by decide) ?_
  exact sn_sub rfl (hk2 (x2 + 1))
set_option maxRecDepth 100000 in
theorem s_X7_passOn_l2 {cx : CX} (x0 : (Option Nat)) (x1 : Int32) (x2 : Int32) : Sn cx m_X7_passOn eV 2 [(2, vI x2), (0, vA x0), (1, vI x1)] [] (f_X7_passOn_l2 x0 x1 x2) :=
  sn_lq1 (L := fun x2 => [(2, vI x2), (0, vA x0), (1, vI x1)]) (fun k hk x2 => s_X7_passOn_b2 x0 x1 hk x2) fuel x2
def f_X7_passOn (p0 : (Option Nat)) (p1 : Int32) : Mo Unit :=
  f_X7_passOn_l2 p0 p1 (1 : Int32)
set_option maxRecDepth 100000 in
theorem s_X7_passOn {cx : CX} (p0 : (Option Nat)) (p1 : Int32) : Sn cx m_X7_passOn eV 0 [(0, vA p0), (1, vI p1)] [] (f_X7_passOn p0 p1) := by
  refine sn_iconst (y := m_X7_passOn) (pc := 0) dX7_passOn_0 kc_iconst_1 ?_
  refine sn_istore_n (y := m_X7_passOn) (pc := 1) dX7_passOn_1 rfl ?_
  exact sn_sub rfl (s_X7_passOn_l2 p0 p1 (1 : Int32))
set_option maxRecDepth 100000 in
theorem c_X7_passOn (g : Gl) (p0 : (Option Nat)) (p1 : Int32) : Cn g m_X7_passOn eV [vA p0, vI p1] (mCk 6 p0 (f_X7_passOn p0 p1)) := cn_of_sn (by decide +kernel) rfl (fun _ => rfl) rfl (fun _ _ => sn_ck (s_X7_passOn p0 p1))
/-! X7_leastNoisy -/
def f_X7_leastNoisy_b40 (x0 : (Option Nat)) (k40 : Int64 → Int32 → Int32 → Mo Int32) (x1 : Int64) (x3 : Int32) (x4 : Int32) : Mo Int32 :=
  mBd (mGetI 6 2 x0) (fun r3 => (if x4 ≥ r3 then mRt x3 else mBd (mCk 6 x0 (f_X7_passOn x0 (x4 - (1 : Int32)))) (fun _ => mBd (mCk 6 x0 (f_X7_noiseOfEchoes x0)) (fun r4 => (if r4 ≥ x1 then k40 x1 x3 (x4 + 1) else k40 r4 x4 (x4 + 1))))))
def f_X7_leastNoisy_l40 (x0 : (Option Nat)) : Int64 → Int32 → Int32 → Mo Int32 := lq3 (f_X7_leastNoisy_b40 x0) fuel
set_option maxRecDepth 100000 in
theorem s_X7_leastNoisy_b40 {cx : CX} (x0 : (Option Nat)) {k40 : Int64 → Int32 → Int32 → Mo Int32} (hk40 : ∀ (z1 : Int64) (z3 : Int32) (z4 : Int32), Sn cx m_X7_leastNoisy eI 40 [(1, vJ z1), (3, vI z3), (4, vI z4), (0, vA x0)] [] (k40 z1 z3 z4)) (x1 : Int64) (x3 : Int32) (x4 : Int32) : Sn cx m_X7_leastNoisy eI 40 [(1, vJ x1), (3, vI x3), (4, vI x4), (0, vA x0)] [] (f_X7_leastNoisy_b40 x0 k40 x1 x3 x4) := by
  refine sn_iload (y := m_X7_leastNoisy) (pc := 40) dX7_leastNoisy_40 rfl ?_
  refine sn_aload_n (y := m_X7_leastNoisy) (pc := 42) dX7_leastNoisy_42 rfl ?_
  refine sn_getI (y := m_X7_leastNoisy) (pc := 43) ca_6 rfl fk_X7_18 (fun _ _ _ => rfl) dX7_leastNoisy_43 (fun r3 => ?_)
  refine sn_icmp_ge (y := m_X7_leastNoisy) (pc := 46) (tgt := 82) dX7_leastNoisy_46 (by decide) (fun _ => ?_) (fun _ => ?_)
  · refine sn_iload_n (y := m_X7_leastNoisy) (pc := 82) dX7_leastNoisy_82 rfl ?_
    exact sn_ireturn rfl dX7_leastNoisy_83
  refine sn_aload_n (y := m_X7_leastNoisy) (pc := 49) dX7_leastNoisy_49 rfl ?_
  refine sn_iload (y := m_X7_leastNoisy) (pc := 50) dX7_leastNoisy_50 rfl ?_
  refine sn_iconst (y := m_X7_leastNoisy) (pc := 52) dX7_leastNoisy_52 kc_iconst_1 ?_
  refine sn_isub (y := m_X7_leastNoisy) (pc := 53) dX7_leastNoisy_53 ?_
  refine sn_invV (y := m_X7_leastNoisy) (pc := 54) ca_6 (av := [vI (x4 - (1 : Int32))]) (o := x0) (st := []) dX7_leastNoisy_54 lk_X7_55 im_X7_passOn se_X7_passOn rfl rfl rfl rfl ⟨by decide, by decide⟩ (c_X7_passOn cx.1 x0 (x4 - (1 : Int32))) (fun _ => ?_)
  refine sn_aload_n (y := m_X7_leastNoisy) (pc := 57) dX7_leastNoisy_57 rfl ?_
  refine sn_invV (y := m_X7_leastNoisy) (pc := 58) ca_6 (av := []) (o := x0) (st := []) dX7_leastNoisy_58 lk_X7_51 im_X7_noiseOfEchoes se_X7_noiseOfEchoes rfl rfl rfl rfl ⟨by decide, by decide⟩ (c_X7_noiseOfEchoes cx.1 x0) (fun r4 => ?_)
  refine sn_lstore (y := m_X7_leastNoisy) (pc := 61) dX7_leastNoisy_61 rfl ?_
  refine sn_lload (y := m_X7_leastNoisy) (pc := 63) dX7_leastNoisy_63 rfl ?_
  refine sn_lload_n (y := m_X7_leastNoisy) (pc := 65) dX7_leastNoisy_65 rfl ?_
  refine sn_lc_ge (y := m_X7_leastNoisy) (pc := 66) (tgt := 76) dX7_leastNoisy_66 dX7_leastNoisy_67 (by decide) (fun _ => ?_) (fun _ => ?_)
  · refine sn_iinc (y := m_X7_leastNoisy) (pc := 76) (v := x4 + 1) dX7_leastNoisy_76 rfl (by rfl) rfl ?_
    refine sn_goto (y := m_X7_leastNoisy) (pc := 79) (tgt := 40) dX7_leastNoisy_79 (by decide) ?_
    exact sn_sub rfl (hk40 x1 x3 (x4 + 1))
  refine sn_lload (y := m_X7_leastNoisy) (pc := 70) dX7_leastNoisy_70 rfl ?_
  refine sn_lstore_n (y := m_X7_leastNoisy) (pc := 72) dX7_leastNoisy_72 rfl ?_
  refine sn_iload (y := m_X7_leastNoisy) (pc := 73) dX7_leastNoisy_73 rfl ?_
  refine sn_istore_n (y := m_X7_leastNoisy) (pc := 75) dX7_leastNoisy_75 rfl ?_
  refine sn_iinc (y := m_X7_leastNoisy) (pc := 76) (v := x4 + 1) dX7_leastNoisy_76 rfl (by rfl) rfl ?_
  refine sn_goto (y := m_X7_leastNoisy) (pc := 79) (tgt := 40) dX7_leastNoisy_79 (by decide) ?_
  exact sn_sub rfl (hk40 r4 x4 (x4 + 1))
set_option maxRecDepth 100000 in
theorem s_X7_leastNoisy_l40 {cx : CX} (x0 : (Option Nat)) (x1 : Int64) (x3 : Int32) (x4 : Int32) : Sn cx m_X7_leastNoisy eI 40 [(1, vJ x1), (3, vI x3), (4, vI x4), (0, vA x0)] [] (f_X7_leastNoisy_l40 x0 x1 x3 x4) :=
  sn_lq3 (L := fun x1 x3 x4 => [(1, vJ x1), (3, vI x3), (4, vI x4), (0, vA x0)]) (fun k hk x1 x3 x4 => s_X7_leastNoisy_b40 x0 hk x1 x3 x4) fuel x1 x3 x4
def f_X7_leastNoisy_b2 (x0 : (Option Nat)) (k2 : Int32 → Mo Int32) (x1 : Int32) : Mo Int32 :=
  mBd (mGetI 6 2 x0) (fun r1 => (if x1 ≥ r1 then mBd (mCk 6 x0 (f_X7_noiseOfEchoes x0)) (fun r2 => f_X7_leastNoisy_l40 x0 r2 (0 : Int32) (1 : Int32)) else mBd (mGetA 6 1 x0) (fun r5 => mBd (mCk 6 x0 (f_X7_echoAt x0 (0 : Int32) x1)) (fun r6 => mBd (f_X6_mark r5 x1 r6) (fun _ => k2 (x1 + 1))))))
def f_X7_leastNoisy_l2 (x0 : (Option Nat)) : Int32 → Mo Int32 := lq1 (f_X7_leastNoisy_b2 x0) fuel
set_option maxRecDepth 100000 in
theorem s_X7_leastNoisy_b2 {cx : CX} (x0 : (Option Nat)) {k2 : Int32 → Mo Int32} (hk2 : ∀ (z1 : Int32), Sn cx m_X7_leastNoisy eI 2 [(1, vI z1), (0, vA x0)] [] (k2 z1)) (x1 : Int32) : Sn cx m_X7_leastNoisy eI 2 [(1, vI x1), (0, vA x0)] [] (f_X7_leastNoisy_b2 x0 k2 x1) := by
  refine sn_iload_n (y := m_X7_leastNoisy) (pc := 2) dX7_leastNoisy_2 rfl ?_
  refine sn_aload_n (y := m_X7_leastNoisy) (pc := 3) dX7_leastNoisy_3 rfl ?_
  refine sn_getI (y := m_X7_leastNoisy) (pc := 4) ca_6 rfl fk_X7_18 (fun _ _ _ => rfl) dX7_leastNoisy_4 (fun r1 => ?_)
  refine sn_icmp_ge (y := m_X7_leastNoisy) (pc := 7) (tgt := 30) dX7_leastNoisy_7 (by decide) (fun _ => ?_) (fun _ => ?_)
  · refine sn_aload_n (y := m_X7_leastNoisy) (pc := 30) dX7_leastNoisy_30 rfl ?_
    refine sn_invV (y := m_X7_leastNoisy) (pc := 31) ca_6 (av := []) (o := x0) (st := []) dX7_leastNoisy_31 lk_X7_51 im_X7_noiseOfEchoes se_X7_noiseOfEchoes rfl rfl rfl rfl ⟨by decide, by decide⟩ (c_X7_noiseOfEchoes cx.1 x0) (fun r2 => ?_)
    refine sn_lstore_n (y := m_X7_leastNoisy) (pc := 34) dX7_leastNoisy_34 rfl ?_
    refine sn_iconst (y := m_X7_leastNoisy) (pc := 35) dX7_leastNoisy_35 kc_iconst_0 ?_
    refine sn_istore_n (y := m_X7_leastNoisy) (pc := 36) dX7_leastNoisy_36 rfl ?_
    refine sn_iconst (y := m_X7_leastNoisy) (pc := 37) dX7_leastNoisy_37 kc_iconst_1 ?_
    refine sn_istore (y := m_X7_leastNoisy) (pc := 38) dX7_leastNoisy_38 rfl ?_
    exact sn_sub rfl (s_X7_leastNoisy_l40 x0 r2 (0 : Int32) (1 : Int32))
  refine sn_aload_n (y := m_X7_leastNoisy) (pc := 10) dX7_leastNoisy_10 rfl ?_
  refine sn_getA (y := m_X7_leastNoisy) (pc := 11) ca_6 rfl fk_X7_15 (fun _ _ _ => rfl) dX7_leastNoisy_11 (fun r5 => ?_)
  refine sn_iload_n (y := m_X7_leastNoisy) (pc := 14) dX7_leastNoisy_14 rfl ?_
  refine sn_aload_n (y := m_X7_leastNoisy) (pc := 15) dX7_leastNoisy_15 rfl ?_
  refine sn_iconst (y := m_X7_leastNoisy) (pc := 16) dX7_leastNoisy_16 kc_iconst_0 ?_
  refine sn_iload_n (y := m_X7_leastNoisy) (pc := 17) dX7_leastNoisy_17 rfl ?_
  refine sn_invV (y := m_X7_leastNoisy) (pc := 18) ca_6 (av := [vI (0 : Int32), vI x1]) (o := x0) (st := [vI x1, vA r5]) dX7_leastNoisy_18 lk_X7_47 im_X7_echoAt se_X7_echoAt rfl rfl rfl rfl ⟨by decide, by decide⟩ (c_X7_echoAt cx.1 x0 (0 : Int32) x1) (fun r6 => ?_)
  refine sn_invS (y := m_X7_leastNoisy) (pc := 21) (av := [vA r5, vI x1, vI r6]) (st := []) dX7_leastNoisy_21 lk_X7_26 sw_X6_mark rfl rfl rfl ⟨by decide, by decide⟩ (c_X6_mark cx.1 r5 x1 r6) (fun _ => ?_)
  refine sn_iinc (y := m_X7_leastNoisy) (pc := 24) (v := x1 + 1) dX7_leastNoisy_24 rfl (by rfl) rfl ?_
  refine sn_goto (y := m_X7_leastNoisy) (pc := 27) (tgt := 2) dX7_leastNoisy_27 (by decide) ?_
  exact sn_sub rfl (hk2 (x1 + 1))
set_option maxRecDepth 100000 in
theorem s_X7_leastNoisy_l2 {cx : CX} (x0 : (Option Nat)) (x1 : Int32) : Sn cx m_X7_leastNoisy eI 2 [(1, vI x1), (0, vA x0)] [] (f_X7_leastNoisy_l2 x0 x1) :=
  sn_lq1 (L := fun x1 => [(1, vI x1), (0, vA x0)]) (fun k hk x1 => s_X7_leastNoisy_b2 x0 hk x1) fuel x1
def f_X7_leastNoisy (p0 : (Option Nat)) : Mo Int32 :=
  f_X7_leastNoisy_l2 p0 (1 : Int32)
set_option maxRecDepth 100000 in
theorem s_X7_leastNoisy {cx : CX} (p0 : (Option Nat)) : Sn cx m_X7_leastNoisy eI 0 [(0, vA p0)] [] (f_X7_leastNoisy p0) := by
  refine sn_iconst (y := m_X7_leastNoisy) (pc := 0) dX7_leastNoisy_0 kc_iconst_1 ?_
  refine sn_istore_n (y := m_X7_leastNoisy) (pc := 1) dX7_leastNoisy_1 rfl ?_
  exact sn_sub rfl (s_X7_leastNoisy_l2 p0 (1 : Int32))
set_option maxRecDepth 100000 in
theorem c_X7_leastNoisy (g : Gl) (p0 : (Option Nat)) : Cn g m_X7_leastNoisy eI [vA p0] (mCk 6 p0 (f_X7_leastNoisy p0)) := cn_of_sn (by decide +kernel) rfl (fun r => ⟨r, rfl⟩) rfl (fun _ _ => sn_ck (s_X7_leastNoisy p0))
/-! X8_signOf -/
def f_X8_signOf_b15 (x1 : Int32) (x2 : Int32) (k15 : Int32 → Mo Int32) (x3 : Int32) : Mo Int32 :=
  (if x3 ≥ x1 then mRt (-1 : Int32) else mBd (f_X6_mod ((x3 * x3).toInt64) x1) (fun r2 => (if ¬ r2 = x2 then k15 (x3 + 1) else mRt (1 : Int32))))
def f_X8_signOf_l15 (x1 : Int32) (x2 : Int32) : Int32 → Mo Int32 := lq1 (f_X8_signOf_b15 x1 x2) fuel
set_option maxRecDepth 100000 in
theorem s_X8_signOf_b15 {cx : CX} (x1 : Int32) (x2 : Int32) {k15 : Int32 → Mo Int32} (hk15 : ∀ (z3 : Int32), Sn cx m_X8_signOf eI 15 [(3, vI z3), (1, vI x1), (2, vI x2)] [] (k15 z3)) (x3 : Int32) : Sn cx m_X8_signOf eI 15 [(3, vI x3), (1, vI x1), (2, vI x2)] [] (f_X8_signOf_b15 x1 x2 k15 x3) := by
  refine sn_iload_n (y := m_X8_signOf) (pc := 15) dX8_signOf_15 rfl ?_
  refine sn_iload_n (y := m_X8_signOf) (pc := 16) dX8_signOf_16 rfl ?_
  refine sn_icmp_ge (y := m_X8_signOf) (pc := 17) (tgt := 40) dX8_signOf_17 (by decide) (fun _ => ?_) (fun _ => ?_)
  · refine sn_iconst (y := m_X8_signOf) (pc := 40) dX8_signOf_40 kc_iconst_m1 ?_
    exact sn_ireturn rfl dX8_signOf_41
  refine sn_iload_n (y := m_X8_signOf) (pc := 20) dX8_signOf_20 rfl ?_
  refine sn_iload_n (y := m_X8_signOf) (pc := 21) dX8_signOf_21 rfl ?_
  refine sn_imul (y := m_X8_signOf) (pc := 22) dX8_signOf_22 ?_
  refine sn_i2l (y := m_X8_signOf) (pc := 23) dX8_signOf_23 ?_
  refine sn_iload_n (y := m_X8_signOf) (pc := 24) dX8_signOf_24 rfl ?_
  refine sn_invS (y := m_X8_signOf) (pc := 25) (av := [vJ ((x3 * x3).toInt64), vI x1]) (st := []) dX8_signOf_25 lk_X8_11 sw_X6_mod rfl rfl rfl ⟨by decide, by decide⟩ (c_X6_mod cx.1 ((x3 * x3).toInt64) x1) (fun r2 => ?_)
  refine sn_iload_n (y := m_X8_signOf) (pc := 28) dX8_signOf_28 rfl ?_
  refine sn_icmp_ne (y := m_X8_signOf) (pc := 29) (tgt := 34) dX8_signOf_29 (by decide) (fun _ => ?_) (fun _ => ?_)
  · refine sn_iinc (y := m_X8_signOf) (pc := 34) (v := x3 + 1) dX8_signOf_34 rfl (by rfl) rfl ?_
    refine sn_goto (y := m_X8_signOf) (pc := 37) (tgt := 15) dX8_signOf_37 (by decide) ?_
    exact sn_sub rfl (hk15 (x3 + 1))
  refine sn_iconst (y := m_X8_signOf) (pc := 32) dX8_signOf_32 kc_iconst_1 ?_
  exact sn_ireturn rfl dX8_signOf_33
set_option maxRecDepth 100000 in
theorem s_X8_signOf_l15 {cx : CX} (x1 : Int32) (x2 : Int32) (x3 : Int32) : Sn cx m_X8_signOf eI 15 [(3, vI x3), (1, vI x1), (2, vI x2)] [] (f_X8_signOf_l15 x1 x2 x3) :=
  sn_lq1 (L := fun x3 => [(3, vI x3), (1, vI x1), (2, vI x2)]) (fun k hk x3 => s_X8_signOf_b15 x1 x2 hk x3) fuel x3
def f_X8_signOf (p0 : Int32) (p1 : Int32) : Mo Int32 :=
  mBd (f_X6_mod (p0.toInt64) p1) (fun r1 => (if ¬ r1 = 0 then f_X8_signOf_l15 p1 r1 (1 : Int32) else mRt (0 : Int32)))
set_option maxRecDepth 100000 in
theorem s_X8_signOf {cx : CX} (p0 : Int32) (p1 : Int32) : Sn cx m_X8_signOf eI 0 [(0, vI p0), (1, vI p1)] [] (f_X8_signOf p0 p1) := by
  refine sn_iload_n (y := m_X8_signOf) (pc := 0) dX8_signOf_0 rfl ?_
  refine sn_i2l (y := m_X8_signOf) (pc := 1) dX8_signOf_1 ?_
  refine sn_iload_n (y := m_X8_signOf) (pc := 2) dX8_signOf_2 rfl ?_
  refine sn_invS (y := m_X8_signOf) (pc := 3) (av := [vJ (p0.toInt64), vI p1]) (st := []) dX8_signOf_3 lk_X8_11 sw_X6_mod rfl rfl rfl ⟨by decide, by decide⟩ (c_X6_mod cx.1 (p0.toInt64) p1) (fun r1 => ?_)
  refine sn_istore_n (y := m_X8_signOf) (pc := 6) dX8_signOf_6 rfl ?_
  refine sn_iload_n (y := m_X8_signOf) (pc := 7) dX8_signOf_7 rfl ?_
  refine sn_if_ne (y := m_X8_signOf) (pc := 8) (tgt := 13) dX8_signOf_8 (by decide) (fun _ => ?_) (fun _ => ?_)
  · refine sn_iconst (y := m_X8_signOf) (pc := 13) dX8_signOf_13 kc_iconst_1 ?_
    refine sn_istore_n (y := m_X8_signOf) (pc := 14) dX8_signOf_14 rfl ?_
    exact sn_sub rfl (s_X8_signOf_l15 p1 r1 (1 : Int32))
  refine sn_iconst (y := m_X8_signOf) (pc := 11) dX8_signOf_11 kc_iconst_0 ?_
  exact sn_ireturn rfl dX8_signOf_12
set_option maxRecDepth 100000 in
theorem c_X8_signOf (g : Gl) (p0 : Int32) (p1 : Int32) : Cn g m_X8_signOf eI [vI p0, vI p1] (f_X8_signOf p0 p1) := cn_of_sn (by decide +kernel) rfl (fun r => ⟨r, rfl⟩) rfl (fun _ _ => s_X8_signOf p0 p1)
/-! X8_isSquare -/
def f_X8_isSquare_b2 (x0 : Int32) (k2 : Int32 → Mo Int32) (x1 : Int32) : Mo Int32 :=
  (if (x1 * x1) > x0 then mRt (0 : Int32) else (if x1 > (199 : Int32) then mRt (0 : Int32) else (if ¬ (x1 * x1) = x0 then k2 (x1 + 1) else mRt (1 : Int32))))
def f_X8_isSquare_l2 (x0 : Int32) : Int32 → Mo Int32 := lq1 (f_X8_isSquare_b2 x0) fuel
set_option maxRecDepth 100000 in
theorem s_X8_isSquare_b2 {cx : CX} (x0 : Int32) {k2 : Int32 → Mo Int32} (hk2 : ∀ (z1 : Int32), Sn cx m_X8_isSquare eI 2 [(1, vI z1), (0, vI x0)] [] (k2 z1)) (x1 : Int32) : Sn cx m_X8_isSquare eI 2 [(1, vI x1), (0, vI x0)] [] (f_X8_isSquare_b2 x0 k2 x1) := by
  refine sn_iload_n (y := m_X8_isSquare) (pc := 2) dX8_isSquare_2 rfl ?_
  refine sn_iload_n (y := m_X8_isSquare) (pc := 3) dX8_isSquare_3 rfl ?_
  refine sn_imul (y := m_X8_isSquare) (pc := 4) dX8_isSquare_4 ?_
  refine sn_iload_n (y := m_X8_isSquare) (pc := 5) dX8_isSquare_5 rfl ?_
  refine sn_icmp_gt (y := m_X8_isSquare) (pc := 6) (tgt := 31) dX8_isSquare_6 (by decide) (fun _ => ?_) (fun _ => ?_)
  · refine sn_iconst (y := m_X8_isSquare) (pc := 31) dX8_isSquare_31 kc_iconst_0 ?_
    exact sn_zreturnC (by decide) rfl dX8_isSquare_32
  refine sn_iload_n (y := m_X8_isSquare) (pc := 9) dX8_isSquare_9 rfl ?_
  refine sn_sipush (y := m_X8_isSquare) (pc := 10) dX8_isSquare_10 kc_sipush_199 ?_
  refine sn_icmp_gt (y := m_X8_isSquare) (pc := 13) (tgt := 31) dX8_isSquare_13 (by decide) (fun _ => ?_) (fun _ => ?_)
  · refine sn_iconst (y := m_X8_isSquare) (pc := 31) dX8_isSquare_31 kc_iconst_0 ?_
    exact sn_zreturnC (by decide) rfl dX8_isSquare_32
  refine sn_iload_n (y := m_X8_isSquare) (pc := 16) dX8_isSquare_16 rfl ?_
  refine sn_iload_n (y := m_X8_isSquare) (pc := 17) dX8_isSquare_17 rfl ?_
  refine sn_imul (y := m_X8_isSquare) (pc := 18) dX8_isSquare_18 ?_
  refine sn_iload_n (y := m_X8_isSquare) (pc := 19) dX8_isSquare_19 rfl ?_
  refine sn_icmp_ne (y := m_X8_isSquare) (pc := 20) (tgt := 25) dX8_isSquare_20 (by decide) (fun _ => ?_) (fun _ => ?_)
  · refine sn_iinc (y := m_X8_isSquare) (pc := 25) (v := x1 + 1) dX8_isSquare_25 rfl (by rfl) rfl ?_
    refine sn_goto (y := m_X8_isSquare) (pc := 28) (tgt := 2) dX8_isSquare_28 (by decide) ?_
    exact sn_sub rfl (hk2 (x1 + 1))
  refine sn_iconst (y := m_X8_isSquare) (pc := 23) dX8_isSquare_23 kc_iconst_1 ?_
  exact sn_zreturnC (by decide) rfl dX8_isSquare_24
set_option maxRecDepth 100000 in
theorem s_X8_isSquare_l2 {cx : CX} (x0 : Int32) (x1 : Int32) : Sn cx m_X8_isSquare eI 2 [(1, vI x1), (0, vI x0)] [] (f_X8_isSquare_l2 x0 x1) :=
  sn_lq1 (L := fun x1 => [(1, vI x1), (0, vI x0)]) (fun k hk x1 => s_X8_isSquare_b2 x0 hk x1) fuel x1
def f_X8_isSquare (p0 : Int32) : Mo Int32 :=
  f_X8_isSquare_l2 p0 (0 : Int32)
set_option maxRecDepth 100000 in
theorem s_X8_isSquare {cx : CX} (p0 : Int32) : Sn cx m_X8_isSquare eI 0 [(0, vI p0)] [] (f_X8_isSquare p0) := by
  refine sn_iconst (y := m_X8_isSquare) (pc := 0) dX8_isSquare_0 kc_iconst_0 ?_
  refine sn_istore_n (y := m_X8_isSquare) (pc := 1) dX8_isSquare_1 rfl ?_
  exact sn_sub rfl (s_X8_isSquare_l2 p0 (0 : Int32))
set_option maxRecDepth 100000 in
theorem c_X8_isSquare (g : Gl) (p0 : Int32) : Cn g m_X8_isSquare eI [vI p0] (f_X8_isSquare p0) := cn_of_sn (by decide +kernel) rfl (fun r => ⟨r, rfl⟩) rfl (fun _ _ => s_X8_isSquare p0)
/-! X8_leastForm -/
def f_X8_leastForm_b2 (x0 : Int32) (x1 : Int32) (k2 : Int32 → Mo Int32) (x2 : Int32) : Mo Int32 :=
  (if x2 > x0 then mRt (-2 : Int32) else (if ((x1 * x2) * x2) > x0 then mRt (-2 : Int32) else mBd (f_X8_isSquare (x0 - ((x1 * x2) * x2))) (fun r1 => (if r1 = 0 then k2 (x2 + 1) else mRt x2))))
def f_X8_leastForm_l2 (x0 : Int32) (x1 : Int32) : Int32 → Mo Int32 := lq1 (f_X8_leastForm_b2 x0 x1) fuel
set_option maxRecDepth 100000 in
theorem s_X8_leastForm_b2 {cx : CX} (x0 : Int32) (x1 : Int32) {k2 : Int32 → Mo Int32} (hk2 : ∀ (z2 : Int32), Sn cx m_X8_leastForm eI 2 [(2, vI z2), (0, vI x0), (1, vI x1)] [] (k2 z2)) (x2 : Int32) : Sn cx m_X8_leastForm eI 2 [(2, vI x2), (0, vI x0), (1, vI x1)] [] (f_X8_leastForm_b2 x0 x1 k2 x2) := by
  refine sn_iload_n (y := m_X8_leastForm) (pc := 2) dX8_leastForm_2 rfl ?_
  refine sn_iload_n (y := m_X8_leastForm) (pc := 3) dX8_leastForm_3 rfl ?_
  refine sn_icmp_gt (y := m_X8_leastForm) (pc := 4) (tgt := 37) dX8_leastForm_4 (by decide) (fun _ => ?_) (fun _ => ?_)
  · refine sn_bipush (y := m_X8_leastForm) (pc := 37) dX8_leastForm_37 kc_bipush_m2 ?_
    exact sn_ireturn rfl dX8_leastForm_39
  refine sn_iload_n (y := m_X8_leastForm) (pc := 7) dX8_leastForm_7 rfl ?_
  refine sn_iload_n (y := m_X8_leastForm) (pc := 8) dX8_leastForm_8 rfl ?_
  refine sn_imul (y := m_X8_leastForm) (pc := 9) dX8_leastForm_9 ?_
  refine sn_iload_n (y := m_X8_leastForm) (pc := 10) dX8_leastForm_10 rfl ?_
  refine sn_imul (y := m_X8_leastForm) (pc := 11) dX8_leastForm_11 ?_
  refine sn_iload_n (y := m_X8_leastForm) (pc := 12) dX8_leastForm_12 rfl ?_
  refine sn_icmp_gt (y := m_X8_leastForm) (pc := 13) (tgt := 37) dX8_leastForm_13 (by decide) (fun _ => ?_) (fun _ => ?_)
  · refine sn_bipush (y := m_X8_leastForm) (pc := 37) dX8_leastForm_37 kc_bipush_m2 ?_
    exact sn_ireturn rfl dX8_leastForm_39
  refine sn_iload_n (y := m_X8_leastForm) (pc := 16) dX8_leastForm_16 rfl ?_
  refine sn_iload_n (y := m_X8_leastForm) (pc := 17) dX8_leastForm_17 rfl ?_
  refine sn_iload_n (y := m_X8_leastForm) (pc := 18) dX8_leastForm_18 rfl ?_
  refine sn_imul (y := m_X8_leastForm) (pc := 19) dX8_leastForm_19 ?_
  refine sn_iload_n (y := m_X8_leastForm) (pc := 20) dX8_leastForm_20 rfl ?_
  refine sn_imul (y := m_X8_leastForm) (pc := 21) dX8_leastForm_21 ?_
  refine sn_isub (y := m_X8_leastForm) (pc := 22) dX8_leastForm_22 ?_
  refine sn_invS (y := m_X8_leastForm) (pc := 23) (av := [vI (x0 - ((x1 * x2) * x2))]) (st := []) dX8_leastForm_23 lk_X8_17 sw_X8_isSquare rfl rfl rfl ⟨by decide, by decide⟩ (c_X8_isSquare cx.1 (x0 - ((x1 * x2) * x2))) (fun r1 => ?_)
  refine sn_if_eq (y := m_X8_leastForm) (pc := 26) (tgt := 31) dX8_leastForm_26 (by decide) (fun _ => ?_) (fun _ => ?_)
  · refine sn_iinc (y := m_X8_leastForm) (pc := 31) (v := x2 + 1) dX8_leastForm_31 rfl (by rfl) rfl ?_
    refine sn_goto (y := m_X8_leastForm) (pc := 34) (tgt := 2) dX8_leastForm_34 (by decide) ?_
    exact sn_sub rfl (hk2 (x2 + 1))
  refine sn_iload_n (y := m_X8_leastForm) (pc := 29) dX8_leastForm_29 rfl ?_
  exact sn_ireturn rfl dX8_leastForm_30
set_option maxRecDepth 100000 in
theorem s_X8_leastForm_l2 {cx : CX} (x0 : Int32) (x1 : Int32) (x2 : Int32) : Sn cx m_X8_leastForm eI 2 [(2, vI x2), (0, vI x0), (1, vI x1)] [] (f_X8_leastForm_l2 x0 x1 x2) :=
  sn_lq1 (L := fun x2 => [(2, vI x2), (0, vI x0), (1, vI x1)]) (fun k hk x2 => s_X8_leastForm_b2 x0 x1 hk x2) fuel x2
def f_X8_leastForm (p0 : Int32) (p1 : Int32) : Mo Int32 :=
  f_X8_leastForm_l2 p0 p1 (0 : Int32)
set_option maxRecDepth 100000 in
theorem s_X8_leastForm {cx : CX} (p0 : Int32) (p1 : Int32) : Sn cx m_X8_leastForm eI 0 [(0, vI p0), (1, vI p1)] [] (f_X8_leastForm p0 p1) := by
  refine sn_iconst (y := m_X8_leastForm) (pc := 0) dX8_leastForm_0 kc_iconst_0 ?_
  refine sn_istore_n (y := m_X8_leastForm) (pc := 1) dX8_leastForm_1 rfl ?_
  exact sn_sub rfl (s_X8_leastForm_l2 p0 p1 (0 : Int32))
set_option maxRecDepth 100000 in
theorem c_X8_leastForm (g : Gl) (p0 : Int32) (p1 : Int32) : Cn g m_X8_leastForm eI [vI p0, vI p1] (f_X8_leastForm p0 p1) := cn_of_sn (by decide +kernel) rfl (fun r => ⟨r, rfl⟩) rfl (fun _ _ => s_X8_leastForm p0 p1)
/-! X8_classBySums -/
def f_X8_classBySums_b4 (x0 : Int32) (k4 : Int32 → Int32 → Mo Int32) (x1 : Int32) (x2 : Int32) : Mo Int32 :=
  (if x2 ≥ x0 then (if x0 ≥ (1 : Int32) then mRq (¬ x0 = 0) (mRt ((-x1) / x0)) else mRt (0 : Int32)) else mBd (f_X8_signOf x2 x0) (fun r1 => mNm (x1 + (x2 * r1)) (fun n2 => k4 n2 (x2 + 1))))
def f_X8_classBySums_l4 (x0 : Int32) : Int32 → Int32 → Mo Int32 := lq2 (f_X8_classBySums_b4 x0) fuel
set_option maxRecDepth 100000 in
theorem s_X8_classBySums_b4 {cx : CX} (x0 : Int32) {k4 : Int32 → Int32 → Mo Int32} (hk4 : ∀ (z1 : Int32) (z2 : Int32), Sn cx m_X8_classBySums eI 4 [(1, vI z1), (2, vI z2), (0, vI x0)] [] (k4 z1 z2)) (x1 : Int32) (x2 : Int32) : Sn cx m_X8_classBySums eI 4 [(1, vI x1), (2, vI x2), (0, vI x0)] [] (f_X8_classBySums_b4 x0 k4 x1 x2) := by
  refine sn_iload_n (y := m_X8_classBySums) (pc := 4) dX8_classBySums_4 rfl ?_
  refine sn_iload_n (y := m_X8_classBySums) (pc := 5) dX8_classBySums_5 rfl ?_
  refine sn_icmp_ge (y := m_X8_classBySums) (pc := 6) (tgt := 25) dX8_classBySums_6 (by decide) (fun _ => ?_) (fun _ => ?_)
  · refine sn_iload_n (y := m_X8_classBySums) (pc := 25) dX8_classBySums_25 rfl ?_
    refine sn_iconst (y := m_X8_classBySums) (pc := 26) dX8_classBySums_26 kc_iconst_1 ?_
    refine sn_icmp_ge (y := m_X8_classBySums) (pc := 27) (tgt := 34) dX8_classBySums_27 (by decide) (fun _ => ?_) (fun _ => ?_)
    · refine sn_iload_n (y := m_X8_classBySums) (pc := 34) dX8_classBySums_34 rfl ?_
      refine sn_ineg (y := m_X8_classBySums) (pc := 35) dX8_classBySums_35 ?_
      refine sn_iload_n (y := m_X8_classBySums) (pc := 36) dX8_classBySums_36 rfl ?_
      refine sn_idiv (y := m_X8_classBySums) (pc := 37) dX8_classBySums_37 ?_
      exact sn_ireturn rfl dX8_classBySums_38
    refine sn_iconst (y := m_X8_classBySums) (pc := 30) dX8_classBySums_30 kc_iconst_0 ?_
    refine sn_goto (y := m_X8_classBySums) (pc := 31) (tgt := 38) dX8_classBySums_31 (by decide) ?_
    exact sn_ireturn rfl dX8_classBySums_38
  refine sn_iload_n (y := m_X8_classBySums) (pc := 9) dX8_classBySums_9 rfl ?_
  refine sn_iload_n (y := m_X8_classBySums) (pc := 10) dX8_classBySums_10 rfl ?_
  refine sn_iload_n (y := m_X8_classBySums) (pc := 11) dX8_classBySums_11 rfl ?_
  refine sn_iload_n (y := m_X8_classBySums) (pc := 12) dX8_classBySums_12 rfl ?_
  refine sn_invS (y := m_X8_classBySums) (pc := 13) (av := [vI x2, vI x0]) (st := [vI x2, vI x1]) dX8_classBySums_13 lk_X8_23 sw_X8_signOf rfl rfl rfl ⟨by decide, by decide⟩ (c_X8_signOf cx.1 x2 x0) (fun r1 => ?_)
  refine sn_imul (y := m_X8_classBySums) (pc := 16) dX8_classBySums_16 ?_
  refine sn_iadd (y := m_X8_classBySums) (pc := 17) dX8_classBySums_17 ?_
  refine sn_istore_nM (y := m_X8_classBySums) (pc := 18) dX8_classBySums_18 rfl (fun n2 => ?_)
  refine sn_iinc (y := m_X8_classBySums) (pc := 19) (v := x2 + 1) dX8_classBySums_19 rfl (by rfl) rfl ?_
  refine sn_goto (y := m_X8_classBySums) (pc := 22) (tgt := 4) dX8_classBySums_22 (by decide) ?_
  exact sn_sub rfl (hk4 n2 (x2 + 1))
set_option maxRecDepth 100000 in
theorem s_X8_classBySums_l4 {cx : CX} (x0 : Int32) (x1 : Int32) (x2 : Int32) : Sn cx m_X8_classBySums eI 4 [(1, vI x1), (2, vI x2), (0, vI x0)] [] (f_X8_classBySums_l4 x0 x1 x2) :=
  sn_lq2 (L := fun x1 x2 => [(1, vI x1), (2, vI x2), (0, vI x0)]) (fun k hk x1 x2 => s_X8_classBySums_b4 x0 hk x1 x2) fuel x1 x2
def f_X8_classBySums (p0 : Int32) : Mo Int32 :=
  f_X8_classBySums_l4 p0 (0 : Int32) (1 : Int32)
set_option maxRecDepth 100000 in
theorem s_X8_classBySums {cx : CX} (p0 : Int32) : Sn cx m_X8_classBySums eI 0 [(0, vI p0)] [] (f_X8_classBySums p0) := by
  refine sn_iconst (y := m_X8_classBySums) (pc := 0) dX8_classBySums_0 kc_iconst_0 ?_
  refine sn_istore_n (y := m_X8_classBySums) (pc := 1) dX8_classBySums_1 rfl ?_
  refine sn_iconst (y := m_X8_classBySums) (pc := 2) dX8_classBySums_2 kc_iconst_1 ?_
  refine sn_istore_n (y := m_X8_classBySums) (pc := 3) dX8_classBySums_3 rfl ?_
  exact sn_sub rfl (s_X8_classBySums_l4 p0 (0 : Int32) (1 : Int32))
set_option maxRecDepth 100000 in
theorem c_X8_classBySums (g : Gl) (p0 : Int32) : Cn g m_X8_classBySums eI [vI p0] (f_X8_classBySums p0) := cn_of_sn (by decide +kernel) rfl (fun r => ⟨r, rfl⟩) rfl (fun _ _ => s_X8_classBySums p0)
/-! X8_isReducedForm -/
def f_X8_isReducedForm_j37 (x0 : Int32) (x1 : Int32) (x3 : Int32) : Mo Int32 :=
  mBd (f_X8_commonPart x0 x1) (fun r2 => mBd (f_X8_commonPart r2 x3) (fun r3 => (if ¬ r3 = (1 : Int32) then mRt (0 : Int32) else mRt (1 : Int32))))
set_option maxRecDepth 100000 in
theorem s_X8_isReducedForm_j37 {cx : CX} (x0 : Int32) (x1 : Int32) (x3 : Int32) : Sn cx m_X8_isReducedForm eI 37 [(0, vI x0), (1, vI x1), (3, vI x3)] [] (f_X8_isReducedForm_j37 x0 x1 x3) := by
  refine sn_iload_n (y := m_X8_isReducedForm) (pc := 37) dX8_isReducedForm_37 rfl ?_
  refine sn_iload_n (y := m_X8_isReducedForm) (pc := 38) dX8_isReducedForm_38 rfl ?_
  refine sn_invS (y := m_X8_isReducedForm) (pc := 39) (av := [vI x0, vI x1]) (st := []) dX8_isReducedForm_39 lk_X8_31 sw_X8_commonPart rfl rfl rfl ⟨by decide, by decide⟩ (c_X8_commonPart cx.1 x0 x1) (fun r2 => ?_)
  refine sn_iload_n (y := m_X8_isReducedForm) (pc := 42) dX8_isReducedForm_42 rfl ?_
  refine sn_invS (y := m_X8_isReducedForm) (pc := 43) (av := [vI r2, vI x3]) (st := []) dX8_isReducedForm_43 lk_X8_31 sw_X8_commonPart rfl rfl rfl ⟨by decide, by decide⟩ (c_X8_commonPart cx.1 r2 x3) (fun r3 => ?_)
  refine sn_iconst (y := m_X8_isReducedForm) (pc := 46) dX8_isReducedForm_46 kc_iconst_1 ?_
  refine sn_icmp_ne (y := m_X8_isReducedForm) (pc := 47) (tgt := 54) dX8_isReducedForm_47 (by decide) (fun _ => ?_) (fun _ => ?_)
  · refine sn_iconst (y := m_X8_isReducedForm) (pc := 54) dX8_isReducedForm_54 kc_iconst_0 ?_
    exact sn_zreturnC (by decide) rfl dX8_isReducedForm_55
  refine sn_iconst (y := m_X8_isReducedForm) (pc := 50) dX8_isReducedForm_50 kc_iconst_1 ?_
  refine sn_goto (y := m_X8_isReducedForm) (pc := 51) (tgt := 55) dX8_isReducedForm_51 (by decide) ?_
  exact sn_zreturnC (by decide) rfl dX8_isReducedForm_55
def f_X8_isReducedForm (p0 : Int32) (p1 : Int32) (p2 : Int32) : Mo Int32 :=
  (if p0 < (1 : Int32) then mRt (0 : Int32) else mRq (¬ ((4 : Int32) * p0) = 0) ((if (irem p2 ((4 : Int32) * p0)) = 0 then mRq (¬ ((4 : Int32) * p0) = 0) (mNm (p2 / ((4 : Int32) * p0)) (fun n1 => (if n1 < p0 then mRt (0 : Int32) else (if ¬ n1 = p0 then f_X8_isReducedForm_j37 p0 p1 n1 else (if p1 ≥ 0 then f_X8_isReducedForm_j37 p0 p1 n1 else mRt (0 : Int32)))))) else mRt (0 : Int32))))
set_option maxRecDepth 100000 in
theorem s_X8_isReducedForm {cx : CX} (p0 : Int32) (p1 : Int32) (p2 : Int32) : Sn cx m_X8_isReducedForm eI 0 [(0, vI p0), (1, vI p1), (2, vI p2)] [] (f_X8_isReducedForm p0 p1 p2) := by
  refine sn_iload_n (y := m_X8_isReducedForm) (pc := 0) dX8_isReducedForm_0 rfl ?_
  refine sn_iconst (y := m_X8_isReducedForm) (pc := 1) dX8_isReducedForm_1 kc_iconst_1 ?_
  refine sn_icmp_lt (y := m_X8_isReducedForm) (pc := 2) (tgt := 13) dX8_isReducedForm_2 (by decide) (fun _ => ?_) (fun _ => ?_)
  · refine sn_iconst (y := m_X8_isReducedForm) (pc := 13) dX8_isReducedForm_13 kc_iconst_0 ?_
    exact sn_zreturnC (by decide) rfl dX8_isReducedForm_14
  refine sn_iload_n (y := m_X8_isReducedForm) (pc := 5) dX8_isReducedForm_5 rfl ?_
  refine sn_iconst (y := m_X8_isReducedForm) (pc := 6) dX8_isReducedForm_6 kc_iconst_4 ?_
  refine sn_iload_n (y := m_X8_isReducedForm) (pc := 7) dX8_isReducedForm_7 rfl ?_
  refine sn_imul (y := m_X8_isReducedForm) (pc := 8) dX8_isReducedForm_8 ?_
  refine sn_irem (y := m_X8_isReducedForm) (pc := 9) dX8_isReducedForm_9 ?_
  refine sn_if_eq (y := m_X8_isReducedForm) (pc := 10) (tgt := 15) dX8_isReducedForm_10 (by decide) (fun _ => ?_) (fun _ => ?_)
  · refine sn_iload_n (y := m_X8_isReducedForm) (pc := 15) dX8_isReducedForm_15 rfl ?_
    refine sn_iconst (y := m_X8_isReducedForm) (pc := 16) dX8_isReducedForm_16 kc_iconst_4 ?_
    refine sn_iload_n (y := m_X8_isReducedForm) (pc := 17) dX8_isReducedForm_17 rfl ?_
    refine sn_imul (y := m_X8_isReducedForm) (pc := 18) dX8_isReducedForm_18 ?_
    refine sn_idiv (y := m_X8_isReducedForm) (pc := 19) dX8_isReducedForm_19 ?_
    refine sn_istore_nM (y := m_X8_isReducedForm) (pc := 20) dX8_isReducedForm_20 rfl (fun n1 => ?_)
    refine sn_iload_n (y := m_X8_isReducedForm) (pc := 21) dX8_isReducedForm_21 rfl ?_
    refine sn_iload_n (y := m_X8_isReducedForm) (pc := 22) dX8_isReducedForm_22 rfl ?_
    refine sn_icmp_lt (y := m_X8_isReducedForm) (pc := 23) (tgt := 35) dX8_isReducedForm_23 (by decide) (fun _ => ?_) (fun _ => ?_)
    · refine sn_iconst (y := m_X8_isReducedForm) (pc := 35) dX8_isReducedForm_35 kc_iconst_0 ?_
      exact sn_zreturnC (by decide) rfl dX8_isReducedForm_36
    refine sn_iload_n (y := m_X8_isReducedForm) (pc := 26) dX8_isReducedForm_26 rfl ?_
    refine sn_iload_n (y := m_X8_isReducedForm) (pc := 27) dX8_isReducedForm_27 rfl ?_
    refine sn_icmp_ne (y := m_X8_isReducedForm) (pc := 28) (tgt := 37) dX8_isReducedForm_28 (by decide) (fun _ => ?_) (fun _ => ?_)
    · exact sn_sub rfl (s_X8_isReducedForm_j37 p0 p1 n1)
    refine sn_iload_n (y := m_X8_isReducedForm) (pc := 31) dX8_isReducedForm_31 rfl ?_
    refine sn_if_ge (y := m_X8_isReducedForm) (pc := 32) (tgt := 37) dX8_isReducedForm_32 (by decide) (fun _ => ?_) (fun _ => ?_)
    · exact sn_sub rfl (s_X8_isReducedForm_j37 p0 p1 n1)
    refine sn_iconst (y := m_X8_isReducedForm) (pc := 35) dX8_isReducedForm_35 kc_iconst_0 ?_
    exact sn_zreturnC (by decide) rfl dX8_isReducedForm_36
  refine sn_iconst (y := m_X8_isReducedForm) (pc := 13) dX8_isReducedForm_13 kc_iconst_0 ?_
  exact sn_zreturnC (by decide) rfl dX8_isReducedForm_14
set_option maxRecDepth 100000 in
theorem c_X8_isReducedForm (g : Gl) (p0 : Int32) (p1 : Int32) (p2 : Int32) : Cn g m_X8_isReducedForm eI [vI p0, vI p1, vI p2] (f_X8_isReducedForm p0 p1 p2) := cn_of_sn (by decide +kernel) rfl (fun r => ⟨r, rfl⟩) rfl (fun _ _ => s_X8_isReducedForm p0 p1 p2)
/-! X8_classByForms -/
def f_X8_classByForms_b22 (k4 : Int32 → Int32 → Mo Int32) (x0 : Int32) (x2 : Int32) (k22 : Int32 → Int32 → Mo Int32) (x1 : Int32) (x3 : Int32) : Mo Int32 :=
  (if x3 > x2 then k4 x1 (x2 + 1) else mBd (f_X8_isReducedForm x2 x3 ((x3 * x3) + x0)) (fun r2 => (if r2 = 0 then k22 x1 (x3 + 1) else k22 (x1 + 1) (x3 + 1))))
def f_X8_classByForms_l22 (k4 : Int32 → Int32 → Mo Int32) (x0 : Int32) (x2 : Int32) : Int32 → Int32 → Mo Int32 := lq2 (f_X8_classByForms_b22 k4 x0 x2) fuel
set_option maxRecDepth 100000 in
theorem s_X8_classByForms_b22 {cx : CX} {k4 : Int32 → Int32 → Mo Int32} (x0 : Int32) (x2 : Int32) (hk4 : ∀ (z1 : Int32) (z2 : Int32), Sn cx m_X8_classByForms eI 4 [(1, vI z1), (2, vI z2), (0, vI x0)] [] (k4 z1 z2)) {k22 : Int32 → Int32 → Mo Int32} (hk22 : ∀ (z1 : Int32) (z3 : Int32), Sn cx m_X8_classByForms eI 22 [(1, vI z1), (3, vI z3), (0, vI x0), (2, vI x2)] [] (k22 z1 z3)) (x1 : Int32) (x3 : Int32) : Sn cx m_X8_classByForms eI 22 [(1, vI x1), (3, vI x3), (0, vI x0), (2, vI x2)] [] (f_X8_classByForms_b22 k4 x0 x2 k22 x1 x3) := by
  refine sn_iload_n (y := m_X8_classByForms) (pc := 22) dX8_classByForms_22 rfl ?_
  refine sn_iload_n (y := m_X8_classByForms) (pc := 23) dX8_classByForms_23 rfl ?_
  refine sn_icmp_gt (y := m_X8_classByForms) (pc := 24) (tgt := 49) dX8_classByForms_24 (by decide) (fun _ => ?_) (fun _ => ?_)
  · refine sn_iinc (y := m_X8_classByForms) (pc := 49) (v := x2 + 1) dX8_classByForms_49 rfl (by rfl) rfl ?_
    refine sn_goto (y := m_X8_classByForms) (pc := 52) (tgt := 4) dX8_classByForms_52 (by decide) ?_
    exact sn_sub rfl (hk4 x1 (x2 + 1))
  refine sn_iload_n (y := m_X8_classByForms) (pc := 27) dX8_classByForms_27 rfl ?_
  refine sn_iload_n (y := m_X8_classByForms) (pc := 28) dX8_classByForms_28 rfl ?_
  refine sn_iload_n (y := m_X8_classByForms) (pc := 29) dX8_classByForms_29 rfl ?_
  refine sn_iload_n (y := m_X8_classByForms) (pc := 30) dX8_classByForms_30 rfl ?_
  refine sn_imul (y := m_X8_classByForms) (pc := 31) dX8_classByForms_31 ?_
  refine sn_iload_n (y := m_X8_classByForms) (pc := 32) dX8_classByForms_32 rfl ?_
  refine sn_iadd (y := m_X8_classByForms) (pc := 33) dX8_classByForms_33 ?_
  refine sn_invS (y := m_X8_classByForms) (pc := 34) (av := [vI x2, vI x3, vI ((x3 * x3) + x0)]) (st := []) dX8_classByForms_34 lk_X8_27 sw_X8_isReducedForm rfl rfl rfl ⟨by decide, by decide⟩ (c_X8_isReducedForm cx.1 x2 x3 ((x3 * x3) + x0)) (fun r2 => ?_)
  refine sn_if_eq (y := m_X8_classByForms) (pc := 37) (tgt := 43) dX8_classByForms_37 (by decide) (fun _ => ?_) (fun _ => ?_)
  · refine sn_iinc (y := m_X8_classByForms) (pc := 43) (v := x3 + 1) dX8_classByForms_43 rfl (by rfl) rfl ?_
    refine sn_goto (y := m_X8_classByForms) (pc := 46) (tgt := 22) dX8_classByForms_46 (by decide) ?_
    exact sn_sub rfl (hk22 x1 (x3 + 1))
  refine sn_iinc (y := m_X8_classByForms) (pc := 40) (v := x1 + 1) dX8_classByForms_40 rfl (by rfl) rfl ?_
  refine sn_iinc (y := m_X8_classByForms) (pc := 43) (v := x3 + 1) dX8_classByForms_43 rfl (by rfl) rfl ?_
  refine sn_goto (y := m_X8_classByForms) (pc := 46) (tgt := 22) dX8_classByForms_46 (by decide) ?_
  exact sn_sub rfl (hk22 (x1 + 1) (x3 + 1))
set_option maxRecDepth 100000 in
theorem s_X8_classByForms_l22 {cx : CX} {k4 : Int32 → Int32 → Mo Int32} (x0 : Int32) (x2 : Int32) (hk4 : ∀ (z1 : Int32) (z2 : Int32), Sn cx m_X8_classByForms eI 4 [(1, vI z1), (2, vI z2), (0, vI x0)] [] (k4 z1 z2)) (x1 : Int32) (x3 : Int32) : Sn cx m_X8_classByForms eI 22 [(1, vI x1), (3, vI x3), (0, vI x0), (2, vI x2)] [] (f_X8_classByForms_l22 k4 x0 x2 x1 x3) :=
  sn_lq2 (L := fun x1 x3 => [(1, vI x1), (3, vI x3), (0, vI x0), (2, vI x2)]) (fun k hk x1 x3 => s_X8_classByForms_b22 x0 x2 hk4 hk x1 x3) fuel x1 x3
def f_X8_classByForms_b4 (x0 : Int32) (k4 : Int32 → Int32 → Mo Int32) (x1 : Int32) (x2 : Int32) : Mo Int32 :=
  (if (((3 : Int32) * x2) * x2) > x0 then mRt x1 else (if x2 > x0 then mRt x1 else mNm ((1 : Int32) - x2) (fun n1 => f_X8_classByForms_l22 k4 x0 x2 x1 n1)))
def f_X8_classByForms_l4 (x0 : Int32) : Int32 → Int32 → Mo Int32 := lq2 (f_X8_classByForms_b4 x0) fuel
set_option maxRecDepth 100000 in
theorem s_X8_classByForms_b4 {cx : CX} (x0 : Int32) {k4 : Int32 → Int32 → Mo Int32} (hk4 : ∀ (z1 : Int32) (z2 : Int32), Sn cx m_X8_classByForms eI 4 [(1, vI z1), (2, vI z2), (0, vI x0)] [] (k4 z1 z2)) (x1 : Int32) (x2 : Int32) : Sn cx m_X8_classByForms eI 4 [(1, vI x1), (2, vI x2), (0, vI x0)] [] (f_X8_classByForms_b4 x0 k4 x1 x2) := by
  refine sn_iconst (y := m_X8_classByForms) (pc := 4) dX8_classByForms_4 kc_iconst_3 ?_
  refine sn_iload_n (y := m_X8_classByForms) (pc := 5) dX8_classByForms_5 rfl ?_
  refine sn_imul (y := m_X8_classByForms) (pc := 6) dX8_classByForms_6 ?_
  refine sn_iload_n (y := m_X8_classByForms) (pc := 7) dX8_classByForms_7 rfl ?_
  refine sn_imul (y := m_X8_classByForms) (pc := 8) dX8_classByForms_8 ?_
  refine sn_iload_n (y := m_X8_classByForms) (pc := 9) dX8_classByForms_9 rfl ?_
  refine sn_icmp_gt (y := m_X8_classByForms) (pc := 10) (tgt := 55) dX8_classByForms_10 (by decide) (fun _ => ?_) (fun _ => ?_)
  · refine sn_iload_n (y := m_X8_classByForms) (pc := 55) dX8_classByForms_55 rfl ?_
    exact sn_ireturn rfl dX8_classByForms_56
  refine sn_iload_n (y := m_X8_classByForms) (pc := 13) dX8_classByForms_13 rfl ?_
  refine sn_iload_n (y := m_X8_classByForms) (pc := 14) dX8_classByForms_14 rfl ?_
  refine sn_icmp_gt (y := m_X8_classByForms) (pc := 15) (tgt := 55) dX8_classByForms_15 (by decide) (fun _ => ?_) (fun _ => ?_)
  · refine sn_iload_n (y := m_X8_classByForms) (pc := 55) dX8_classByForms_55 rfl ?_
    exact sn_ireturn rfl dX8_classByForms_56
  refine sn_iconst (y := m_X8_classByForms) (pc := 18) dX8_classByForms_18 kc_iconst_1 ?_
  refine sn_iload_n (y := m_X8_classByForms) (pc := 19) dX8_classByForms_19 rfl ?_
  refine sn_isub (y := m_X8_classByForms) (pc := 20) dX8_classByForms_20 ?_
  refine sn_istore_nM (y := m_X8_classByForms) (pc := 21) dX8_classByForms_21 rfl (fun n1 => ?_)
  exact sn_sub rfl (s_X8_classByForms_l22 x0 x2 hk4 x1 n1)
set_option maxRecDepth 100000 in
theorem s_X8_classByForms_l4 {cx : CX} (x0 : Int32) (x1 : Int32) (x2 : Int32) : Sn cx m_X8_classByForms eI 4 [(1, vI x1), (2, vI x2), (0, vI x0)] [] (f_X8_classByForms_l4 x0 x1 x2) :=
  sn_lq2 (L := fun x1 x2 => [(1, vI x1), (2, vI x2), (0, vI x0)]) (fun k hk x1 x2 => s_X8_classByForms_b4 x0 hk x1 x2) fuel x1 x2
def f_X8_classByForms (p0 : Int32) : Mo Int32 :=
  f_X8_classByForms_l4 p0 (0 : Int32) (1 : Int32)
set_option maxRecDepth 100000 in
theorem s_X8_classByForms {cx : CX} (p0 : Int32) : Sn cx m_X8_classByForms eI 0 [(0, vI p0)] [] (f_X8_classByForms p0) := by
  refine sn_iconst (y := m_X8_classByForms) (pc := 0) dX8_classByForms_0 kc_iconst_0 ?_
  refine sn_istore_n (y := m_X8_classByForms) (pc := 1) dX8_classByForms_1 rfl ?_
  refine sn_iconst (y := m_X8_classByForms) (pc := 2) dX8_classByForms_2 kc_iconst_1 ?_
  refine sn_istore_n (y := m_X8_classByForms) (pc := 3) dX8_classByForms_3 rfl ?_
  exact sn_sub rfl (s_X8_classByForms_l4 p0 (0 : Int32) (1 : Int32))
set_option maxRecDepth 100000 in
theorem c_X8_classByForms (g : Gl) (p0 : Int32) : Cn g m_X8_classByForms eI [vI p0] (f_X8_classByForms p0) := cn_of_sn (by decide +kernel) rfl (fun r => ⟨r, rfl⟩) rfl (fun _ _ => s_X8_classByForms p0)
/-! X9_bytesHeld -/
def f_X9_bytesHeld (p0 : (Option Nat)) : Mo Int32 :=
  mBd (mGetI 7 5 p0) (fun r1 => mRt r1)
set_option maxRecDepth 100000 in
theorem s_X9_bytesHeld {cx : CX} (p0 : (Option Nat)) : Sn cx m_X9_bytesHeld eI 0 [(0, vA p0)] [] (f_X9_bytesHeld p0) := by
  refine sn_aload_n (y := m_X9_bytesHeld) (pc := 0) dX9_bytesHeld_0 rfl ?_
  refine sn_getI (y := m_X9_bytesHeld) (pc := 1) ca_7 rfl fk_X9_28 (fun _ _ _ => rfl) dX9_bytesHeld_1 (fun r1 => ?_)
  exact sn_ireturn rfl dX9_bytesHeld_4
set_option maxRecDepth 100000 in
theorem c_X9_bytesHeld (g : Gl) (p0 : (Option Nat)) : Cn g m_X9_bytesHeld eI [vA p0] (mCk 7 p0 (f_X9_bytesHeld p0)) := cn_of_sn (by decide +kernel) rfl (fun r => ⟨r, rfl⟩) rfl (fun _ _ => sn_ck (s_X9_bytesHeld p0))
/-! X9_hasRoom -/
def f_X9_hasRoom (p0 : (Option Nat)) (p1 : Int32) : Mo Int32 :=
  mBd (mGetI 7 5 p0) (fun r1 => (if (r1 + p1) > (900 : Int32) then mRt (0 : Int32) else mRt (1 : Int32)))
set_option maxRecDepth 100000 in
theorem s_X9_hasRoom {cx : CX} (p0 : (Option Nat)) (p1 : Int32) : Sn cx m_X9_hasRoom eI 0 [(0, vA p0), (1, vI p1)] [] (f_X9_hasRoom p0 p1) := by
  refine sn_aload_n (y := m_X9_hasRoom) (pc := 0) dX9_hasRoom_0 rfl ?_
  refine sn_getI (y := m_X9_hasRoom) (pc := 1) ca_7 rfl fk_X9_28 (fun _ _ _ => rfl) dX9_hasRoom_1 (fun r1 => ?_)
  refine sn_iload_n (y := m_X9_hasRoom) (pc := 4) dX9_hasRoom_4 rfl ?_
  refine sn_iadd (y := m_X9_hasRoom) (pc := 5) dX9_hasRoom_5 ?_
  refine sn_sipush (y := m_X9_hasRoom) (pc := 6) dX9_hasRoom_6 kc_sipush_900 ?_
  refine sn_icmp_gt (y := m_X9_hasRoom) (pc := 9) (tgt := 16) dX9_hasRoom_9 (by decide) (fun _ => ?_) (fun _ => ?_)
  · refine sn_iconst (y := m_X9_hasRoom) (pc := 16) dX9_hasRoom_16 kc_iconst_0 ?_
    exact sn_zreturnC (by decide) rfl dX9_hasRoom_17
  refine sn_iconst (y := m_X9_hasRoom) (pc := 12) dX9_hasRoom_12 kc_iconst_1 ?_
  refine sn_goto (y := m_X9_hasRoom) (pc := 13) (tgt := 17) dX9_hasRoom_13 (by decide) ?_
  exact sn_zreturnC (by decide) rfl dX9_hasRoom_17
set_option maxRecDepth 100000 in
theorem c_X9_hasRoom (g : Gl) (p0 : (Option Nat)) (p1 : Int32) : Cn g m_X9_hasRoom eI [vA p0, vI p1] (mCk 7 p0 (f_X9_hasRoom p0 p1)) := cn_of_sn (by decide +kernel) rfl (fun r => ⟨r, rfl⟩) rfl (fun _ _ => sn_ck (s_X9_hasRoom p0 p1))
/-! X9_append -/
def f_X9_append_b3 (x0 : (Option Nat)) (x1 : Int32) (k3 : Int32 → Mo Unit) (x2 : Int32) : Mo Unit :=
  (if x2 < 0 then mRt () else mBd (mGetA 7 0 x0) (fun r1 => mBd (mGetI 7 5 x0) (fun r2 => mBd (f_X6_mark r1 r2 ((x1 >>> (x2 &&& 31)) &&& (255 : Int32))) (fun _ => mBd (mGetI 7 5 x0) (fun r3 => mBd (mPutI 7 5 x0 (r3 + (1 : Int32))) (fun _ => k3 (x2 + (-8))))))))
def f_X9_append_l3 (x0 : (Option Nat)) (x1 : Int32) : Int32 → Mo Unit := lq1 (f_X9_append_b3 x0 x1) fuel
set_option maxRecDepth 100000 in
theorem s_X9_append_b3 {cx : CX} (x0 : (Option Nat)) (x1 : Int32) {k3 : Int32 → Mo Unit} (hk3 : ∀ (z2 : Int32), Sn cx m_X9_append eV 3 [(2, vI z2), (0, vA x0), (1, vI x1)] [] (k3 z2)) (x2 : Int32) : Sn cx m_X9_append eV 3 [(2, vI x2), (0, vA x0), (1, vI x1)] [] (f_X9_append_b3 x0 x1 k3 x2) := by
  refine sn_iload_n (y := m_X9_append) (pc := 3) dX9_append_3 rfl ?_
  refine sn_if_lt (y := m_X9_append) (pc := 4) (tgt := 41) dX9_append_4 (by decide) (fun _ => ?_) (fun _ => ?_)
  · exact sn_return rfl dX9_append_41
  refine sn_aload_n (y := m_X9_append) (pc := 7) dX9_append_7 rfl ?_
  refine sn_getA (y := m_X9_append) (pc := 8) ca_7 rfl fk_X9_11 (fun _ _ _ => rfl) dX9_append_8 (fun r1 => ?_)
  refine sn_aload_n (y := m_X9_append) (pc := 11) dX9_append_11 rfl ?_
  refine sn_getI (y := m_X9_append) (pc := 12) ca_7 rfl fk_X9_28 (fun _ _ _ => rfl) dX9_append_12 (fun r2 => ?_)
  refine sn_iload_n (y := m_X9_append) (pc := 15) dX9_append_15 rfl ?_
  refine sn_iload_n (y := m_X9_append) (pc := 16) dX9_append_16 rfl ?_
  refine sn_ishr (y := m_X9_append) (pc := 17) dX9_append_17 ?_
  refine sn_sipush (y := m_X9_append) (pc := 18) dX9_append_18 kc_sipush_255 ?_
  refine sn_iand (y := m_X9_append) (pc := 21) dX9_append_21 ?_
  refine sn_invS (y := m_X9_append) (pc := 22) (av := [vA r1, vI r2, vI ((x1 >>> (x2 &&& 31)) &&& (255 : Int32))]) (st := []) dX9_append_22 lk_X9_75 sw_X6_mark rfl rfl rfl ⟨by decide, by decide⟩ (c_X6_mark cx.1 r1 r2 ((x1 >>> (x2 &&& 31)) &&& (255 : Int32))) (fun _ => ?_)
  refine sn_aload_n (y := m_X9_append) (pc := 25) dX9_append_25 rfl ?_
  refine sn_dup (y := m_X9_append) (pc := 26) rfl dX9_append_26 ?_
  refine sn_getI (y := m_X9_append) (pc := 27) ca_7 rfl fk_X9_28 (fun _ _ _ => rfl) dX9_append_27 (fun r3 => ?_)
  refine sn_iconst (y := m_X9_append) (pc := 30) dX9_append_30 kc_iconst_1 ?_
  refine sn_iadd (y := m_X9_append) (pc := 31) dX9_append_31 ?_
  refine sn_putI (y := m_X9_append) (pc := 32) ca_7 rfl fk_X9_28 (Or.inl rfl) rfl dX9_append_32 ?_
  refine sn_iinc (y := m_X9_append) (pc := 35) (v := x2 + (-8)) dX9_append_35 rfl (by rfl) rfl ?_
  refine sn_goto (y := m_X9_append) (pc := 38) (tgt := 3) dX9_append_38 (by decide) ?_
  exact sn_sub rfl (hk3 (x2 + (-8)))
set_option maxRecDepth 100000 in
theorem s_X9_append_l3 {cx : CX} (x0 : (Option Nat)) (x1 : Int32) (x2 : Int32) : Sn cx m_X9_append eV 3 [(2, vI x2), (0, vA x0), (1, vI x1)] [] (f_X9_append_l3 x0 x1 x2) :=
  sn_lq1 (L := fun x2 => [(2, vI x2), (0, vA x0), (1, vI x1)]) (fun k hk x2 => s_X9_append_b3 x0 x1 hk x2) fuel x2
def f_X9_append (p0 : (Option Nat)) (p1 : Int32) : Mo Unit :=
  f_X9_append_l3 p0 p1 (24 : Int32)
set_option maxRecDepth 100000 in
theorem s_X9_append {cx : CX} (p0 : (Option Nat)) (p1 : Int32) : Sn cx m_X9_append eV 0 [(0, vA p0), (1, vI p1)] [] (f_X9_append p0 p1) := by
  refine sn_bipush (y := m_X9_append) (pc := 0) dX9_append_0 kc_bipush_24 ?_
  refine sn_istore_n (y := m_X9_append) (pc := 2) dX9_append_2 rfl ?_
  exact sn_sub rfl (s_X9_append_l3 p0 p1 (24 : Int32))
set_option maxRecDepth 100000 in
theorem c_X9_append (g : Gl) (p0 : (Option Nat)) (p1 : Int32) : Cn g m_X9_append eV [vA p0, vI p1] (mCk 7 p0 (f_X9_append p0 p1)) := cn_of_sn (by decide +kernel) rfl (fun _ => rfl) rfl (fun _ _ => sn_ck (s_X9_append p0 p1))
/-! X9_empty -/
def f_X9_empty (p0 : (Option Nat)) : Mo Unit :=
  mBd (mPutI 7 5 p0 (0 : Int32)) (fun _ => mRt ())
set_option maxRecDepth 100000 in
theorem s_X9_empty {cx : CX} (p0 : (Option Nat)) : Sn cx m_X9_empty eV 0 [(0, vA p0)] [] (f_X9_empty p0) := by
  refine sn_aload_n (y := m_X9_empty) (pc := 0) dX9_empty_0 rfl ?_
  refine sn_iconst (y := m_X9_empty) (pc := 1) dX9_empty_1 kc_iconst_0 ?_
  refine sn_putI (y := m_X9_empty) (pc := 2) ca_7 rfl fk_X9_28 (Or.inl rfl) rfl dX9_empty_2 ?_
  exact sn_return rfl dX9_empty_5
set_option maxRecDepth 100000 in
theorem c_X9_empty (g : Gl) (p0 : (Option Nat)) : Cn g m_X9_empty eV [vA p0] (mCk 7 p0 (f_X9_empty p0)) := cn_of_sn (by decide +kernel) rfl (fun _ => rfl) rfl (fun _ _ => sn_ck (s_X9_empty p0))
/-! X10_init -/
def f_X10_init (p0 : (Option Nat)) : Mo Unit :=
  mCk 8 p0 (mBd (mNew 3) (fun r1 => mBd (mCk 3 r1 (f_X3_init r1)) (fun _ => mBd (mPutA 8 0 p0 r1) (fun _ => mBd (mNew 5) (fun r2 => mBd (mCk 5 r2 (f_X5_init r2)) (fun _ => mBd (mPutA 8 1 p0 r2) (fun _ => mBd (mNew 4) (fun r3 => mBd (mCk 4 r3 (f_X4_init r3)) (fun _ => mBd (mPutA 8 2 p0 r3) (fun _ => mBd (mNew 6) (fun r4 => mBd (mCk 6 r4 (f_X7_init r4)) (fun _ => mBd (mPutA 8 3 p0 r4) (fun _ => mBd (mNewA 2 (10 : Int32)) (fun r5 => mBd (mPutA 8 4 p0 r5) (fun _ => mBd (mNewA 2 (10 : Int32)) (fun r6 => mBd (mPutA 8 5 p0 r6) (fun _ => mBd (mNewA 2 (10 : Int32)) (fun r7 => mBd (mPutA 8 6 p0 r7) (fun _ => mBd (mNewA 2 (10 : Int32)) (fun r8 => mBd (mPutA 8 7 p0 r8) (fun _ => mBd (mNew 0) (fun r9 => mBd (mCk 0 r9 (f_X0_init r9)) (fun _ => mBd (mPutA 8 8 p0 r9) (fun _ => mBd (mPutI 8 9 p0 (0 : Int32)) (fun _ => mBd (mPutI 8 10 p0 (-1 : Int32)) (fun _ => mBd (mPutI 8 11 p0 (0 : Int32)) (fun _ => mRt ())))))))))))))))))))))))))))
set_option maxRecDepth 100000 in
theorem s_X10_init {cx : CX} (p0 : (Option Nat)) : Sn cx m_X10_init eV 0 [(0, vA p0)] [] (f_X10_init p0) := by
  refine sn_aload_n (y := m_X10_init) (pc := 0) dX10_init_0 rfl ?_
  refine sn_objInit (y := m_X10_init) (pc := 1) oi_X10_1 oi_1 oi_2 dX10_init_1 rfl ⟨by decide, by decide⟩ ?_
  refine sn_aload_n (y := m_X10_init) (pc := 4) dX10_init_4 rfl ?_
  refine sn_new (y := m_X10_init) (pc := 5) ca_3 nk_X10_7 dX10_init_5 (fun r1 => ?_)
  refine sn_dup (y := m_X10_init) (pc := 8) rfl dX10_init_8 ?_
  refine sn_invI (y := m_X10_init) (pc := 9) (c := 3) (av := []) (o := r1) (st := [vA r1, vA p0]) dX10_init_9 (Or.inl lk_X10_9) im_X3_init rfl rfl rfl rfl rfl ⟨by decide, by decide⟩ (c_X3_init cx.1 r1) (fun _ => ?_)
  refine sn_putA (y := m_X10_init) (pc := 12) ca_8 rfl fk_X10_10 (Or.inr ⟨rfl, rfl, rfl, fkm_X10_10⟩) rfl dX10_init_12 ?_
  refine sn_aload_n (y := m_X10_init) (pc := 15) dX10_init_15 rfl ?_
  refine sn_new (y := m_X10_init) (pc := 16) ca_5 nk_X10_16 dX10_init_16 (fun r2 => ?_)
  refine sn_dup (y := m_X10_init) (pc := 19) rfl dX10_init_19 ?_
  refine sn_invI (y := m_X10_init) (pc := 20) (c := 5) (av := []) (o := r2) (st := [vA r2, vA p0]) dX10_init_20 (Or.inl lk_X10_18) im_X5_init rfl rfl rfl rfl rfl ⟨by decide, by decide⟩ (c_X5_init cx.1 r2) (fun _ => ?_)
  refine sn_putA (y := m_X10_init) (pc := 23) ca_8 rfl fk_X10_19 (Or.inr ⟨rfl, rfl, rfl, fkm_X10_19⟩) rfl dX10_init_23 ?_
  refine sn_aload_n (y := m_X10_init) (pc := 26) dX10_init_26 rfl ?_
  refine sn_new (y := m_X10_init) (pc := 27) ca_4 nk_X10_23 dX10_init_27 (fun r3 => ?_)
  refine sn_dup (y := m_X10_init) (pc := 30) rfl dX10_init_30 ?_
  refine sn_invI (y := m_X10_init) (pc := 31) (c := 4) (av := []) (o := r3) (st := [vA r3, vA p0]) dX10_init_31 (Or.inl lk_X10_25) im_X4_init rfl rfl rfl rfl rfl ⟨by decide, by decide⟩ (c_X4_init cx.1 r3) (fun _ => ?_)
  refine sn_putA (y := m_X10_init) (pc := 34) ca_8 rfl fk_X10_26 (Or.inr ⟨rfl, rfl, rfl, fkm_X10_26⟩) rfl dX10_init_34 ?_
  refine sn_aload_n (y := m_X10_init) (pc := 37) dX10_init_37 rfl ?_
  refine sn_new (y := m_X10_init) (pc := 38) ca_6 nk_X10_30 dX10_init_38 (fun r4 => ?_)
  refine sn_dup (y := m_X10_init) (pc := 41) rfl dX10_init_41 ?_
  refine sn_invI (y := m_X10_init) (pc := 42) (c := 6) (av := []) (o := r4) (st := [vA r4, vA p0]) dX10_init_42 (Or.inl lk_X10_32) im_X7_init rfl rfl rfl rfl rfl ⟨by decide, by decide⟩ (c_X7_init cx.1 r4) (fun _ => ?_)
  refine sn_putA (y := m_X10_init) (pc := 45) ca_8 rfl fk_X10_33 (Or.inr ⟨rfl, rfl, rfl, fkm_X10_33⟩) rfl dX10_init_45 ?_
  refine sn_aload_n (y := m_X10_init) (pc := 48) dX10_init_48 rfl ?_
  refine sn_bipush (y := m_X10_init) (pc := 49) dX10_init_49 kc_bipush_10 ?_
  refine sn_newarray (y := m_X10_init) (pc := 51) (t := 2) rfl (Or.inr (Or.inl rfl)) ac_long dX10_init_51 (fun r5 => ?_)
  refine sn_putA (y := m_X10_init) (pc := 53) ca_8 rfl fk_X10_37 (Or.inr ⟨rfl, rfl, rfl, fkm_X10_37⟩) rfl dX10_init_53 ?_
  refine sn_aload_n (y := m_X10_init) (pc := 56) dX10_init_56 rfl ?_
  refine sn_bipush (y := m_X10_init) (pc := 57) dX10_init_57 kc_bipush_10 ?_
  refine sn_newarray (y := m_X10_init) (pc := 59) (t := 2) rfl (Or.inr (Or.inl rfl)) ac_long dX10_init_59 (fun r6 => ?_)
  refine sn_putA (y := m_X10_init) (pc := 61) ca_8 rfl fk_X10_41 (Or.inr ⟨rfl, rfl, rfl, fkm_X10_41⟩) rfl dX10_init_61 ?_
  refine sn_aload_n (y := m_X10_init) (pc := 64) dX10_init_64 rfl ?_
  refine sn_bipush (y := m_X10_init) (pc := 65) dX10_init_65 kc_bipush_10 ?_
  refine sn_newarray (y := m_X10_init) (pc := 67) (t := 2) rfl (Or.inr (Or.inl rfl)) ac_long dX10_init_67 (fun r7 => ?_)
  refine sn_putA (y := m_X10_init) (pc := 69) ca_8 rfl fk_X10_44 (Or.inr ⟨rfl, rfl, rfl, fkm_X10_44⟩) rfl dX10_init_69 ?_
  refine sn_aload_n (y := m_X10_init) (pc := 72) dX10_init_72 rfl ?_
  refine sn_bipush (y := m_X10_init) (pc := 73) dX10_init_73 kc_bipush_10 ?_
  refine sn_newarray (y := m_X10_init) (pc := 75) (t := 2) rfl (Or.inr (Or.inl rfl)) ac_long dX10_init_75 (fun r8 => ?_)
  refine sn_putA (y := m_X10_init) (pc := 77) ca_8 rfl fk_X10_47 (Or.inr ⟨rfl, rfl, rfl, fkm_X10_47⟩) rfl dX10_init_77 ?_
  refine sn_aload_n (y := m_X10_init) (pc := 80) dX10_init_80 rfl ?_
  refine sn_new (y := m_X10_init) (pc := 81) ca_0 nk_X10_50 dX10_init_81 (fun r9 => ?_)
  refine sn_dup (y := m_X10_init) (pc := 84) rfl dX10_init_84 ?_
  refine sn_invI (y := m_X10_init) (pc := 85) (c := 0) (av := []) (o := r9) (st := [vA r9, vA p0]) dX10_init_85 (Or.inl lk_X10_52) im_X0_init rfl rfl rfl rfl rfl ⟨by decide, by decide⟩ (c_X0_init cx.1 r9) (fun _ => ?_)
  refine sn_putA (y := m_X10_init) (pc := 88) ca_8 rfl fk_X10_53 (Or.inl rfl) rfl dX10_init_88 ?_
  refine sn_aload_n (y := m_X10_init) (pc := 91) dX10_init_91 rfl ?_
  refine sn_iconst (y := m_X10_init) (pc := 92) dX10_init_92 kc_iconst_0 ?_
  refine sn_putI (y := m_X10_init) (pc := 93) ca_8 rfl fk_X10_57 (Or.inl rfl) rfl dX10_init_93 ?_
  refine sn_aload_n (y := m_X10_init) (pc := 96) dX10_init_96 rfl ?_
  refine sn_iconst (y := m_X10_init) (pc := 97) dX10_init_97 kc_iconst_m1 ?_
  refine sn_putI (y := m_X10_init) (pc := 98) ca_8 rfl fk_X10_61 (Or.inl rfl) rfl dX10_init_98 ?_
  refine sn_aload_n (y := m_X10_init) (pc := 101) dX10_init_101 rfl ?_
  refine sn_iconst (y := m_X10_init) (pc := 102) dX10_init_102 kc_iconst_0 ?_
  refine sn_putI (y := m_X10_init) (pc := 103) ca_8 rfl fk_X10_64 (Or.inl rfl) rfl dX10_init_103 ?_
  exact sn_return rfl dX10_init_106
set_option maxRecDepth 100000 in
theorem c_X10_init (g : Gl) (p0 : (Option Nat)) : Cn g m_X10_init eV [vA p0] (mCk 8 p0 (f_X10_init p0)) := cn_of_sn (by decide +kernel) rfl (fun _ => rfl) rfl (fun _ _ => sn_ck (s_X10_init p0))
/-! X10_feed -/
def f_X10_feed (p0 : (Option Nat)) (p1 : Int32) (p2 : Int32) (p3 : Int32) (p4 : Int32) (p5 : Int32) : Mo Int32 :=
  mBd (mGetA 8 0 p0) (fun r1 => mBd (mCk 3 r1 (f_X3_tape r1)) (fun r2 => mBd (mCk 7 r2 (f_X9_hasRoom r2 (20 : Int32))) (fun r3 => (if ¬ r3 = 0 then mBd (mCk 7 r2 (f_X9_append r2 p1)) (fun _ => mBd (mCk 7 r2 (f_X9_append r2 p2)) (fun _ => mBd (mCk 7 r2 (f_X9_append r2 p3)) (fun _ => mBd (mCk 7 r2 (f_X9_append r2 p4)) (fun _ => mBd (mCk 7 r2 (f_X9_append r2 p5)) (fun _ => mBd (mCk 7 r2 (f_X9_bytesHeld r2)) (fun r4 => mRt r4)))))) else mRt (-1 : Int32)))))
set_option maxRecDepth 100000 in
theorem s_X10_feed {cx : CX} (p0 : (Option Nat)) (p1 : Int32) (p2 : Int32) (p3 : Int32) (p4 : Int32) (p5 : Int32) : Sn cx m_X10_feed eI 0 [(0, vA p0), (1, vI p1), (2, vI p2), (3, vI p3), (4, vI p4), (5, vI p5)] [] (f_X10_feed p0 p1 p2 p3 p4 p5) := by
  refine sn_aload_n (y := m_X10_feed) (pc := 0) dX10_feed_0 rfl ?_
  refine sn_getA (y := m_X10_feed) (pc := 1) ca_8 rfl fk_X10_10 (fun _ _ _ => rfl) dX10_feed_1 (fun r1 => ?_)
  refine sn_invV (y := m_X10_feed) (pc := 4) ca_3 (av := []) (o := r1) (st := []) dX10_feed_4 lk_X10_67 im_X3_tape se_X3_tape rfl rfl rfl rfl ⟨by decide, by decide⟩ (c_X3_tape cx.1 r1) (fun r2 => ?_)
  refine sn_astore (y := m_X10_feed) (pc := 7) dX10_feed_7 rfl ?_
  refine sn_aload (y := m_X10_feed) (pc := 9) dX10_feed_9 rfl ?_
  refine sn_bipush (y := m_X10_feed) (pc := 11) dX10_feed_11 kc_bipush_20 ?_
  refine sn_invV (y := m_X10_feed) (pc := 13) ca_7 (av := [vI (20 : Int32)]) (o := r2) (st := []) dX10_feed_13 lk_X10_71 im_X9_hasRoom se_X9_hasRoom rfl rfl rfl rfl ⟨by decide, by decide⟩ (c_X9_hasRoom cx.1 r2 (20 : Int32)) (fun r3 => ?_)
  refine sn_if_ne (y := m_X10_feed) (pc := 16) (tgt := 21) dX10_feed_16 (by decide) (fun _ => ?_) (fun _ => ?_)
  · refine sn_aload (y := m_X10_feed) (pc := 21) dX10_feed_21 rfl ?_
    refine sn_iload_n (y := m_X10_feed) (pc := 23) dX10_feed_23 rfl ?_
    refine sn_invV (y := m_X10_feed) (pc := 24) ca_7 (av := [vI p1]) (o := r2) (st := []) dX10_feed_24 lk_X10_77 im_X9_append se_X9_append rfl rfl rfl rfl ⟨by decide, by decide⟩ (c_X9_append cx.1 r2 p1) (fun _ => ?_)
    refine sn_aload (y := m_X10_feed) (pc := 27) dX10_feed_27 rfl ?_
    refine sn_iload_n (y := m_X10_feed) (pc := 29) dX10_feed_29 rfl ?_
    refine sn_invV (y := m_X10_feed) (pc := 30) ca_7 (av := [vI p2]) (o := r2) (st := []) dX10_feed_30 lk_X10_77 im_X9_append se_X9_append rfl rfl rfl rfl ⟨by decide, by decide⟩ (c_X9_append cx.1 r2 p2) (fun _ => ?_)
    refine sn_aload (y := m_X10_feed) (pc := 33) dX10_feed_33 rfl ?_
    refine sn_iload_n (y := m_X10_feed) (pc := 35) dX10_feed_35 rfl ?_
    refine sn_invV (y := m_X10_feed) (pc := 36) ca_7 (av := [vI p3]) (o := r2) (st := []) dX10_feed_36 lk_X10_77 im_X9_append se_X9_append rfl rfl rfl rfl ⟨by decide, by decide⟩ (c_X9_append cx.1 r2 p3) (fun _ => ?_)
    refine sn_aload (y := m_X10_feed) (pc := 39) dX10_feed_39 rfl ?_
    refine sn_iload (y := m_X10_feed) (pc := 41) dX10_feed_41 rfl ?_
    refine sn_invV (y := m_X10_feed) (pc := 43) ca_7 (av := [vI p4]) (o := r2) (st := []) dX10_feed_43 lk_X10_77 im_X9_append se_X9_append rfl rfl rfl rfl ⟨by decide, by decide⟩ (c_X9_append cx.1 r2 p4) (fun _ => ?_)
    refine sn_aload (y := m_X10_feed) (pc := 46) dX10_feed_46 rfl ?_
    refine sn_iload (y := m_X10_feed) (pc := 48) dX10_feed_48 rfl ?_
    refine sn_invV (y := m_X10_feed) (pc := 50) ca_7 (av := [vI p5]) (o := r2) (st := []) dX10_feed_50 lk_X10_77 im_X9_append se_X9_append rfl rfl rfl rfl ⟨by decide, by decide⟩ (c_X9_append cx.1 r2 p5) (fun _ => ?_)
    refine sn_aload (y := m_X10_feed) (pc := 53) dX10_feed_53 rfl ?_
    refine sn_invV (y := m_X10_feed) (pc := 55) ca_7 (av := []) (o := r2) (st := []) dX10_feed_55 lk_X10_81 im_X9_bytesHeld se_X9_bytesHeld rfl rfl rfl rfl ⟨by decide, by decide⟩ (c_X9_bytesHeld cx.1 r2) (fun r4 => ?_)
    exact sn_ireturn rfl dX10_feed_58
  refine sn_iconst (y := m_X10_feed) (pc := 19) dX10_feed_19 kc_iconst_m1 ?_
  exact sn_ireturn rfl dX10_feed_20
set_option maxRecDepth 100000 in
theorem c_X10_feed (g : Gl) (p0 : (Option Nat)) (p1 : Int32) (p2 : Int32) (p3 : Int32) (p4 : Int32) (p5 : Int32) : Cn g m_X10_feed eI [vA p0, vI p1, vI p2, vI p3, vI p4, vI p5] (mCk 8 p0 (f_X10_feed p0 p1 p2 p3 p4 p5)) := cn_of_sn (by decide +kernel) rfl (fun r => ⟨r, rfl⟩) rfl (fun _ _ => sn_ck (s_X10_feed p0 p1 p2 p3 p4 p5))
/-! X10_refused -/
def f_X10_refused (p0 : (Option Nat)) (p1 : Int32) (p2 : Int32) : Mo Int32 :=
  mBd (mPutI 8 11 p0 p1) (fun _ => mRt p2)
set_option maxRecDepth 100000 in
theorem s_X10_refused {cx : CX} (p0 : (Option Nat)) (p1 : Int32) (p2 : Int32) : Sn cx m_X10_refused eI 0 [(0, vA p0), (1, vI p1), (2, vI p2)] [] (f_X10_refused p0 p1 p2) := by
  refine sn_aload_n (y := m_X10_refused) (pc := 0) dX10_refused_0 rfl ?_
  refine sn_iload_n (y := m_X10_refused) (pc := 1) dX10_refused_1 rfl ?_
  refine sn_putI (y := m_X10_refused) (pc := 2) ca_8 rfl fk_X10_64 (Or.inl rfl) rfl dX10_refused_2 ?_
  refine sn_iload_n (y := m_X10_refused) (pc := 5) dX10_refused_5 rfl ?_
  exact sn_ireturn rfl dX10_refused_6
set_option maxRecDepth 100000 in
theorem c_X10_refused (g : Gl) (p0 : (Option Nat)) (p1 : Int32) (p2 : Int32) : Cn g m_X10_refused eI [vA p0, vI p1, vI p2] (mCk 8 p0 (f_X10_refused p0 p1 p2)) := cn_of_sn (by decide +kernel) rfl (fun r => ⟨r, rfl⟩) rfl (fun _ _ => sn_ck (s_X10_refused p0 p1 p2))
/-! X10_answered -/
def f_X10_answered (p0 : (Option Nat)) (p1 : Int32) : Mo Int32 :=
  mBd (mPutI 8 11 p0 (0 : Int32)) (fun _ => mRt p1)
set_option maxRecDepth 100000 in
theorem s_X10_answered {cx : CX} (p0 : (Option Nat)) (p1 : Int32) : Sn cx m_X10_answered eI 0 [(0, vA p0), (1, vI p1)] [] (f_X10_answered p0 p1) := by
  refine sn_aload_n (y := m_X10_answered) (pc := 0) dX10_answered_0 rfl ?_
  refine sn_iconst (y := m_X10_answered) (pc := 1) dX10_answered_1 kc_iconst_0 ?_
  refine sn_putI (y := m_X10_answered) (pc := 2) ca_8 rfl fk_X10_64 (Or.inl rfl) rfl dX10_answered_2 ?_
  refine sn_iload_n (y := m_X10_answered) (pc := 5) dX10_answered_5 rfl ?_
  exact sn_ireturn rfl dX10_answered_6
set_option maxRecDepth 100000 in
theorem c_X10_answered (g : Gl) (p0 : (Option Nat)) (p1 : Int32) : Cn g m_X10_answered eI [vA p0, vI p1] (mCk 8 p0 (f_X10_answered p0 p1)) := cn_of_sn (by decide +kernel) rfl (fun r => ⟨r, rfl⟩) rfl (fun _ _ => sn_ck (s_X10_answered p0 p1))
/-! X10_book -/
def f_X10_book (p0 : (Option Nat)) (p1 : Int32) : Mo Int32 :=
  (if p1 < 0 then mBd (mCk 8 p0 (f_X10_refused p0 (2 : Int32) (-1 : Int32))) (fun r1 => mRt r1) else mBd (mGetA 8 0 p0) (fun r2 => mBd (mCk 3 r2 (f_X3_tape r2)) (fun r3 => mBd (mCk 7 r3 (f_X9_bytesHeld r3)) (fun r4 => (if p1 ≤ r4 then mBd (mGetA 8 0 p0) (fun r5 => mBd (mCk 3 r5 (f_X3_read r5 p1)) (fun r6 => mBd (mPutI 8 9 p0 r6) (fun _ => mBd (mGetA 8 0 p0) (fun r7 => mBd (mCk 3 r7 (f_X3_faultPlace r7)) (fun r8 => mBd (mPutI 8 10 p0 r8) (fun _ => mBd (mGetA 8 0 p0) (fun r9 => mBd (mCk 3 r9 (f_X3_tape r9)) (fun r10 => mBd (mCk 7 r10 (f_X9_empty r10)) (fun _ => mBd (mGetI 8 9 p0) (fun r11 => (if r11 = 0 then mBd (mGetA 8 0 p0) (fun r12 => mBd (mGetA 8 8 p0) (fun r13 => mBd (mCk 3 r12 (f_X3_exchange r12 r13)) (fun r14 => mBd (mPutA 8 8 p0 r14) (fun _ => mBd (mGetA 8 2 p0) (fun r15 => mBd (mCk 4 r15 (f_X4_restart r15)) (fun _ => mBd (mGetA 8 8 p0) (fun r16 => mBd (mCk 0 r16 (f_X0_fieldsHeld r16)) (fun r17 => mBd (mCk 8 p0 (f_X10_answered p0 r17)) (fun r18 => mRt r18))))))))) else mBd (mCk 8 p0 (f_X10_refused p0 (4 : Int32) (-1 : Int32))) (fun r19 => mRt r19)))))))))))) else mBd (mCk 8 p0 (f_X10_refused p0 (2 : Int32) (-1 : Int32))) (fun r20 => mRt r20))))))
set_option maxRecDepth 100000 in
theorem s_X10_book {cx : CX} (p0 : (Option Nat)) (p1 : Int32) : Sn cx m_X10_book eI 0 [(0, vA p0), (1, vI p1)] [] (f_X10_book p0 p1) := by
  refine sn_iload_n (y := m_X10_book) (pc := 0) dX10_book_0 rfl ?_
  refine sn_if_lt (y := m_X10_book) (pc := 1) (tgt := 18) dX10_book_1 (by decide) (fun _ => ?_) (fun _ => ?_)
  · refine sn_aload_n (y := m_X10_book) (pc := 18) dX10_book_18 rfl ?_
    refine sn_iconst (y := m_X10_book) (pc := 19) dX10_book_19 kc_iconst_2 ?_
    refine sn_iconst (y := m_X10_book) (pc := 20) dX10_book_20 kc_iconst_m1 ?_
    refine sn_invV (y := m_X10_book) (pc := 21) ca_8 (av := [vI (2 : Int32), vI (-1 : Int32)]) (o := p0) (st := []) dX10_book_21 lk_X10_85 im_X10_refused se_X10_refused rfl rfl rfl rfl ⟨by decide, by decide⟩ (c_X10_refused cx.1 p0 (2 : Int32) (-1 : Int32)) (fun r1 => ?_)
    exact sn_ireturn rfl dX10_book_24
  refine sn_iload_n (y := m_X10_book) (pc := 4) dX10_book_4 rfl ?_
  refine sn_aload_n (y := m_X10_book) (pc := 5) dX10_book_5 rfl ?_
  refine sn_getA (y := m_X10_book) (pc := 6) ca_8 rfl fk_X10_10 (fun _ _ _ => rfl) dX10_book_6 (fun r2 => ?_)
  refine sn_invV (y := m_X10_book) (pc := 9) ca_3 (av := []) (o := r2) (st := [vI p1]) dX10_book_9 lk_X10_67 im_X3_tape se_X3_tape rfl rfl rfl rfl ⟨by decide, by decide⟩ (c_X3_tape cx.1 r2) (fun r3 => ?_)
  refine sn_invV (y := m_X10_book) (pc := 12) ca_7 (av := []) (o := r3) (st := [vI p1]) dX10_book_12 lk_X10_81 im_X9_bytesHeld se_X9_bytesHeld rfl rfl rfl rfl ⟨by decide, by decide⟩ (c_X9_bytesHeld cx.1 r3) (fun r4 => ?_)
  refine sn_icmp_le (y := m_X10_book) (pc := 15) (tgt := 25) dX10_book_15 (by decide) (fun _ => ?_) (fun _ => ?_)
  · refine sn_aload_n (y := m_X10_book) (pc := 25) dX10_book_25 rfl ?_
    refine sn_aload_n (y := m_X10_book) (pc := 26) dX10_book_26 rfl ?_
    refine sn_getA (y := m_X10_book) (pc := 27) ca_8 rfl fk_X10_10 (fun _ _ _ => rfl) dX10_book_27 (fun r5 => ?_)
    refine sn_iload_n (y := m_X10_book) (pc := 30) dX10_book_30 rfl ?_
    refine sn_invV (y := m_X10_book) (pc := 31) ca_3 (av := [vI p1]) (o := r5) (st := [vA p0]) dX10_book_31 lk_X10_89 im_X3_read se_X3_read rfl rfl rfl rfl ⟨by decide, by decide⟩ (c_X3_read cx.1 r5 p1) (fun r6 => ?_)
    refine sn_putI (y := m_X10_book) (pc := 34) ca_8 rfl fk_X10_57 (Or.inl rfl) rfl dX10_book_34 ?_
    refine sn_aload_n (y := m_X10_book) (pc := 37) dX10_book_37 rfl ?_
    refine sn_aload_n (y := m_X10_book) (pc := 38) dX10_book_38 rfl ?_
    refine sn_getA (y := m_X10_book) (pc := 39) ca_8 rfl fk_X10_10 (fun _ _ _ => rfl) dX10_book_39 (fun r7 => ?_)
    refine sn_invV (y := m_X10_book) (pc := 42) ca_3 (av := []) (o := r7) (st := [vA p0]) dX10_book_42 lk_X10_93 im_X3_faultPlace se_X3_faultPlace rfl rfl rfl rfl ⟨by decide, by decide⟩ (c_X3_faultPlace cx.1 r7) (fun r8 => ?_)
    refine sn_putI (y := m_X10_book) (pc := 45) ca_8 rfl fk_X10_61 (Or.inl rfl) rfl dX10_book_45 ?_
    refine sn_aload_n (y := m_X10_book) (pc := 48) dX10_book_48 rfl ?_
    refine sn_getA (y := m_X10_book) (pc := 49) ca_8 rfl fk_X10_10 (fun _ _ _ => rfl) dX10_book_49 (fun r9 => ?_)
    refine sn_invV (y := m_X10_book) (pc := 52) ca_3 (av := []) (o := r9) (st := []) dX10_book_52 lk_X10_67 im_X3_tape se_X3_tape rfl rfl rfl rfl ⟨by decide, by decide⟩ (c_X3_tape cx.1 r9) (fun r10 => ?_)
    refine sn_invV (y := m_X10_book) (pc := 55) ca_7 (av := []) (o := r10) (st := []) dX10_book_55 lk_X10_95 im_X9_empty se_X9_empty rfl rfl rfl rfl ⟨by decide, by decide⟩ (c_X9_empty cx.1 r10) (fun _ => ?_)
    refine sn_aload_n (y := m_X10_book) (pc := 58) dX10_book_58 rfl ?_
    refine sn_getI (y := m_X10_book) (pc := 59) ca_8 rfl fk_X10_57 (fun _ _ _ => rfl) dX10_book_59 (fun r11 => ?_)
    refine sn_if_eq (y := m_X10_book) (pc := 62) (tgt := 72) dX10_book_62 (by decide) (fun _ => ?_) (fun _ => ?_)
    · refine sn_aload_n (y := m_X10_book) (pc := 72) dX10_book_72 rfl ?_
      refine sn_aload_n (y := m_X10_book) (pc := 73) dX10_book_73 rfl ?_
      refine sn_getA (y := m_X10_book) (pc := 74) ca_8 rfl fk_X10_10 (fun _ _ _ => rfl) dX10_book_74 (fun r12 => ?_)
      refine sn_aload_n (y := m_X10_book) (pc := 77) dX10_book_77 rfl ?_
      refine sn_getA (y := m_X10_book) (pc := 78) ca_8 rfl fk_X10_53 (fun _ _ _ => rfl) dX10_book_78 (fun r13 => ?_)
      refine sn_invV (y := m_X10_book) (pc := 81) ca_3 (av := [vA r13]) (o := r12) (st := [vA p0]) dX10_book_81 lk_X10_98 im_X3_exchange se_X3_exchange rfl rfl rfl rfl ⟨by decide, by decide⟩ (c_X3_exchange cx.1 r12 r13) (fun r14 => ?_)
      refine sn_putA (y := m_X10_book) (pc := 84) ca_8 rfl fk_X10_53 (Or.inl rfl) rfl dX10_book_84 ?_
      refine sn_aload_n (y := m_X10_book) (pc := 87) dX10_book_87 rfl ?_
      refine sn_getA (y := m_X10_book) (pc := 88) ca_8 rfl fk_X10_26 (fun _ _ _ => rfl) dX10_book_88 (fun r15 => ?_)
      refine sn_invV (y := m_X10_book) (pc := 91) ca_4 (av := []) (o := r15) (st := []) dX10_book_91 lk_X10_102 im_X4_restart se_X4_restart rfl rfl rfl rfl ⟨by decide, by decide⟩ (c_X4_restart cx.1 r15) (fun _ => ?_)
      refine sn_aload_n (y := m_X10_book) (pc := 94) dX10_book_94 rfl ?_
      refine sn_aload_n (y := m_X10_book) (pc := 95) dX10_book_95 rfl ?_
      refine sn_getA (y := m_X10_book) (pc := 96) ca_8 rfl fk_X10_53 (fun _ _ _ => rfl) dX10_book_96 (fun r16 => ?_)
      refine sn_invV (y := m_X10_book) (pc := 99) ca_0 (av := []) (o := r16) (st := [vA p0]) dX10_book_99 lk_X10_105 im_X0_fieldsHeld se_X0_fieldsHeld rfl rfl rfl rfl ⟨by decide, by decide⟩ (c_X0_fieldsHeld cx.1 r16) (fun r17 => ?_)
      refine sn_invV (y := m_X10_book) (pc := 102) ca_8 (av := [vI r17]) (o := p0) (st := []) dX10_book_102 lk_X10_108 im_X10_answered se_X10_answered rfl rfl rfl rfl ⟨by decide, by decide⟩ (c_X10_answered cx.1 p0 r17) (fun r18 => ?_)
      exact sn_ireturn rfl dX10_book_105
    refine sn_aload_n (y := m_X10_book) (pc := 65) dX10_book_65 rfl ?_
    refine sn_iconst (y := m_X10_book) (pc := 66) dX10_book_66 kc_iconst_4 ?_
    refine sn_iconst (y := m_X10_book) (pc := 67) dX10_book_67 kc_iconst_m1 ?_
    refine sn_invV (y := m_X10_book) (pc := 68) ca_8 (av := [vI (4 : Int32), vI (-1 : Int32)]) (o := p0) (st := []) dX10_book_68 lk_X10_85 im_X10_refused se_X10_refused rfl rfl rfl rfl ⟨by decide, by decide⟩ (c_X10_refused cx.1 p0 (4 : Int32) (-1 : Int32)) (fun r19 => ?_)
    exact sn_ireturn rfl dX10_book_71
  refine sn_aload_n (y := m_X10_book) (pc := 18) dX10_book_18 rfl ?_
  refine sn_iconst (y := m_X10_book) (pc := 19) dX10_book_19 kc_iconst_2 ?_
  refine sn_iconst (y := m_X10_book) (pc := 20) dX10_book_20 kc_iconst_m1 ?_
  refine sn_invV (y := m_X10_book) (pc := 21) ca_8 (av := [vI (2 : Int32), vI (-1 : Int32)]) (o := p0) (st := []) dX10_book_21 lk_X10_85 im_X10_refused se_X10_refused rfl rfl rfl rfl ⟨by decide, by decide⟩ (c_X10_refused cx.1 p0 (2 : Int32) (-1 : Int32)) (fun r20 => ?_)
  exact sn_ireturn rfl dX10_book_24
set_option maxRecDepth 100000 in
theorem c_X10_book (g : Gl) (p0 : (Option Nat)) (p1 : Int32) : Cn g m_X10_book eI [vA p0, vI p1] (mCk 8 p0 (f_X10_book p0 p1)) := cn_of_sn (by decide +kernel) rfl (fun r => ⟨r, rfl⟩) rfl (fun _ _ => sn_ck (s_X10_book p0 p1))
/-! X10_fault -/
def f_X10_fault (p0 : (Option Nat)) : Mo Int32 :=
  mBd (mGetI 8 9 p0) (fun r1 => mRt r1)
set_option maxRecDepth 100000 in
theorem s_X10_fault {cx : CX} (p0 : (Option Nat)) : Sn cx m_X10_fault eI 0 [(0, vA p0)] [] (f_X10_fault p0) := by
  refine sn_aload_n (y := m_X10_fault) (pc := 0) dX10_fault_0 rfl ?_
  refine sn_getI (y := m_X10_fault) (pc := 1) ca_8 rfl fk_X10_57 (fun _ _ _ => rfl) dX10_fault_1 (fun r1 => ?_)
  exact sn_ireturn rfl dX10_fault_4
set_option maxRecDepth 100000 in
theorem c_X10_fault (g : Gl) (p0 : (Option Nat)) : Cn g m_X10_fault eI [vA p0] (mCk 8 p0 (f_X10_fault p0)) := cn_of_sn (by decide +kernel) rfl (fun r => ⟨r, rfl⟩) rfl (fun _ _ => sn_ck (s_X10_fault p0))
/-! X10_where -/
def f_X10_where (p0 : (Option Nat)) : Mo Int32 :=
  mBd (mGetI 8 11 p0) (fun r1 => (if ¬ r1 = (4 : Int32) then mRt (-1 : Int32) else mBd (mGetI 8 10 p0) (fun r2 => mRt r2)))
set_option maxRecDepth 100000 in
theorem s_X10_where {cx : CX} (p0 : (Option Nat)) : Sn cx m_X10_where eI 0 [(0, vA p0)] [] (f_X10_where p0) := by
  refine sn_aload_n (y := m_X10_where) (pc := 0) dX10_where_0 rfl ?_
  refine sn_getI (y := m_X10_where) (pc := 1) ca_8 rfl fk_X10_64 (fun _ _ _ => rfl) dX10_where_1 (fun r1 => ?_)
  refine sn_iconst (y := m_X10_where) (pc := 4) dX10_where_4 kc_iconst_4 ?_
  refine sn_icmp_ne (y := m_X10_where) (pc := 5) (tgt := 15) dX10_where_5 (by decide) (fun _ => ?_) (fun _ => ?_)
  · refine sn_iconst (y := m_X10_where) (pc := 15) dX10_where_15 kc_iconst_m1 ?_
    exact sn_ireturn rfl dX10_where_16
  refine sn_aload_n (y := m_X10_where) (pc := 8) dX10_where_8 rfl ?_
  refine sn_getI (y := m_X10_where) (pc := 9) ca_8 rfl fk_X10_61 (fun _ _ _ => rfl) dX10_where_9 (fun r2 => ?_)
  refine sn_goto (y := m_X10_where) (pc := 12) (tgt := 16) dX10_where_12 (by decide) ?_
  exact sn_ireturn rfl dX10_where_16
set_option maxRecDepth 100000 in
theorem c_X10_where (g : Gl) (p0 : (Option Nat)) : Cn g m_X10_where eI [vA p0] (mCk 8 p0 (f_X10_where p0)) := cn_of_sn (by decide +kernel) rfl (fun r => ⟨r, rfl⟩) rfl (fun _ _ => sn_ck (s_X10_where p0))
/-! X10_field -/
def f_X10_field (p0 : (Option Nat)) (p1 : Int32) (p2 : Int32) : Mo Int32 :=
  mBd (mGetA 8 8 p0) (fun r1 => mBd (mCk 0 r1 (f_X0_fieldAt r1 p1)) (fun r2 => (if r2 = none then mBd (mCk 8 p0 (f_X10_refused p0 (1 : Int32) (-1 : Int32))) (fun r3 => mRt r3) else (if p2 < 0 then mBd (mCk 8 p0 (f_X10_refused p0 (1 : Int32) (-1 : Int32))) (fun r4 => mRt r4) else (if p2 ≤ (3 : Int32) then (if p2 = (0 : Int32) then mBd (mCk 2 r2 (f_X2_prime r2)) (fun r5 => mBd (mCk 8 p0 (f_X10_answered p0 r5)) (fun r6 => mRt r6)) else (if p2 = (1 : Int32) then mBd (mCk 2 r2 (f_X2_order r2)) (fun r7 => mBd (mCk 8 p0 (f_X10_answered p0 r7)) (fun r8 => mRt r8)) else (if p2 = (2 : Int32) then mBd (mCk 2 r2 (f_X2_root r2)) (fun r9 => mBd (mCk 8 p0 (f_X10_answered p0 r9)) (fun r10 => mRt r10)) else mBd (mCk 2 r2 (f_X2_rowLength r2)) (fun r11 => mBd (mCk 8 p0 (f_X10_answered p0 r11)) (fun r12 => mRt r12))))) else mBd (mCk 8 p0 (f_X10_refused p0 (1 : Int32) (-1 : Int32))) (fun r13 => mRt r13))))))
set_option maxRecDepth 100000 in
theorem s_X10_field {cx : CX} (p0 : (Option Nat)) (p1 : Int32) (p2 : Int32) : Sn cx m_X10_field eI 0 [(0, vA p0), (1, vI p1), (2, vI p2)] [] (f_X10_field p0 p1 p2) := by
  refine sn_aload_n (y := m_X10_field) (pc := 0) dX10_field_0 rfl ?_
  refine sn_getA (y := m_X10_field) (pc := 1) ca_8 rfl fk_X10_53 (fun _ _ _ => rfl) dX10_field_1 (fun r1 => ?_)
  refine sn_iload_n (y := m_X10_field) (pc := 4) dX10_field_4 rfl ?_
  refine sn_invV (y := m_X10_field) (pc := 5) ca_0 (av := [vI p1]) (o := r1) (st := []) dX10_field_5 lk_X10_111 im_X0_fieldAt se_X0_fieldAt rfl rfl rfl rfl ⟨by decide, by decide⟩ (c_X0_fieldAt cx.1 r1 p1) (fun r2 => ?_)
  refine sn_astore_n (y := m_X10_field) (pc := 8) dX10_field_8 rfl ?_
  refine sn_aload_n (y := m_X10_field) (pc := 9) dX10_field_9 rfl ?_
  refine sn_ifnull (y := m_X10_field) (pc := 10) (tgt := 22) dX10_field_10 (by decide) ?_ ?_
  · refine sn_aload_n (y := m_X10_field) (pc := 22) dX10_field_22 rfl ?_
    refine sn_iconst (y := m_X10_field) (pc := 23) dX10_field_23 kc_iconst_1 ?_
    refine sn_iconst (y := m_X10_field) (pc := 24) dX10_field_24 kc_iconst_m1 ?_
    refine sn_invV (y := m_X10_field) (pc := 25) ca_8 (av := [vI (1 : Int32), vI (-1 : Int32)]) (o := p0) (st := []) dX10_field_25 lk_X10_85 im_X10_refused se_X10_refused rfl rfl rfl rfl ⟨by decide, by decide⟩ (c_X10_refused cx.1 p0 (1 : Int32) (-1 : Int32)) (fun r3 => ?_)
    exact sn_ireturn rfl dX10_field_28
  refine sn_iload_n (y := m_X10_field) (pc := 13) dX10_field_13 rfl ?_
  refine sn_if_lt (y := m_X10_field) (pc := 14) (tgt := 22) dX10_field_14 (by decide) (fun _ => ?_) (fun _ => ?_)
  · refine sn_aload_n (y := m_X10_field) (pc := 22) dX10_field_22 rfl ?_
    refine sn_iconst (y := m_X10_field) (pc := 23) dX10_field_23 kc_iconst_1 ?_
    refine sn_iconst (y := m_X10_field) (pc := 24) dX10_field_24 kc_iconst_m1 ?_
    refine sn_invV (y := m_X10_field) (pc := 25) ca_8 (av := [vI (1 : Int32), vI (-1 : Int32)]) (o := p0) (st := []) dX10_field_25 lk_X10_85 im_X10_refused se_X10_refused rfl rfl rfl rfl ⟨by decide, by decide⟩ (c_X10_refused cx.1 p0 (1 : Int32) (-1 : Int32)) (fun r4 => ?_)
    exact sn_ireturn rfl dX10_field_28
  refine sn_iload_n (y := m_X10_field) (pc := 17) dX10_field_17 rfl ?_
  refine sn_iconst (y := m_X10_field) (pc := 18) dX10_field_18 kc_iconst_3 ?_
  refine sn_icmp_le (y := m_X10_field) (pc := 19) (tgt := 29) dX10_field_19 (by decide) (fun _ => ?_) (fun _ => ?_)
  · refine sn_iload_n (y := m_X10_field) (pc := 29) dX10_field_29 rfl ?_
    refine sn_tabC (y := m_X10_field) (pc := 30) (v := (0 : Int32)) (n := 0) (tgt := 56) (off := 26) dX10_field_30 (by decide) (by decide) rfl (by decide) ?_ (fun h0 => ?_)
    · refine sn_aload_n (y := m_X10_field) (pc := 56) dX10_field_56 rfl ?_
      refine sn_aload_n (y := m_X10_field) (pc := 57) dX10_field_57 rfl ?_
      refine sn_invV (y := m_X10_field) (pc := 58) ca_2 (av := []) (o := r2) (st := [vA p0]) dX10_field_58 lk_X10_115 im_X2_prime se_X2_prime rfl rfl rfl rfl ⟨by decide, by decide⟩ (c_X2_prime cx.1 r2) (fun r5 => ?_)
      refine sn_invV (y := m_X10_field) (pc := 61) ca_8 (av := [vI r5]) (o := p0) (st := []) dX10_field_61 lk_X10_108 im_X10_answered se_X10_answered rfl rfl rfl rfl ⟨by decide, by decide⟩ (c_X10_answered cx.1 p0 r5) (fun r6 => ?_)
      exact sn_ireturn rfl dX10_field_64
    refine sn_tabC (v := (1 : Int32)) (n := 1) (tgt := 65) (off := 35) dX10_field_30 (by decide) (by decide) rfl (by decide) ?_ (fun h1 => ?_)
    · refine sn_aload_n (y := m_X10_field) (pc := 65) dX10_field_65 rfl ?_
      refine sn_aload_n (y := m_X10_field) (pc := 66) dX10_field_66 rfl ?_
      refine sn_invV (y := m_X10_field) (pc := 67) ca_2 (av := []) (o := r2) (st := [vA p0]) dX10_field_67 lk_X10_120 im_X2_order se_X2_order rfl rfl rfl rfl ⟨by decide, by decide⟩ (c_X2_order cx.1 r2) (fun r7 => ?_)
      refine sn_invV (y := m_X10_field) (pc := 70) ca_8 (av := [vI r7]) (o := p0) (st := []) dX10_field_70 lk_X10_108 im_X10_answered se_X10_answered rfl rfl rfl rfl ⟨by decide, by decide⟩ (c_X10_answered cx.1 p0 r7) (fun r8 => ?_)
      exact sn_ireturn rfl dX10_field_73
    refine sn_tabC (v := (2 : Int32)) (n := 2) (tgt := 74) (off := 44) dX10_field_30 (by decide) (by decide) rfl (by decide) ?_ (fun h2 => ?_)
    · refine sn_aload_n (y := m_X10_field) (pc := 74) dX10_field_74 rfl ?_
      refine sn_aload_n (y := m_X10_field) (pc := 75) dX10_field_75 rfl ?_
      refine sn_invV (y := m_X10_field) (pc := 76) ca_2 (av := []) (o := r2) (st := [vA p0]) dX10_field_76 lk_X10_123 im_X2_root se_X2_root rfl rfl rfl rfl ⟨by decide, by decide⟩ (c_X2_root cx.1 r2) (fun r9 => ?_)
      refine sn_invV (y := m_X10_field) (pc := 79) ca_8 (av := [vI r9]) (o := p0) (st := []) dX10_field_79 lk_X10_108 im_X10_answered se_X10_answered rfl rfl rfl rfl ⟨by decide, by decide⟩ (c_X10_answered cx.1 p0 r9) (fun r10 => ?_)
      exact sn_ireturn rfl dX10_field_82
    refine sn_tabD (tgt := 83) dX10_field_30 (by omega) (by decide) ?_
    refine sn_aload_n (y := m_X10_field) (pc := 83) dX10_field_83 rfl ?_
    refine sn_aload_n (y := m_X10_field) (pc := 84) dX10_field_84 rfl ?_
    refine sn_invV (y := m_X10_field) (pc := 85) ca_2 (av := []) (o := r2) (st := [vA p0]) dX10_field_85 lk_X10_126 im_X2_rowLength se_X2_rowLength rfl rfl rfl rfl ⟨by decide, by decide⟩ (c_X2_rowLength cx.1 r2) (fun r11 => ?_)
    refine sn_invV (y := m_X10_field) (pc := 88) ca_8 (av := [vI r11]) (o := p0) (st := []) dX10_field_88 lk_X10_108 im_X10_answered se_X10_answered rfl rfl rfl rfl ⟨by decide, by decide⟩ (c_X10_answered cx.1 p0 r11) (fun r12 => ?_)
    exact sn_ireturn rfl dX10_field_91
  refine sn_aload_n (y := m_X10_field) (pc := 22) dX10_field_22 rfl ?_
  refine sn_iconst (y := m_X10_field) (pc := 23) dX10_field_23 kc_iconst_1 ?_
  refine sn_iconst (y := m_X10_field) (pc := 24) dX10_field_24 kc_iconst_m1 ?_
  refine sn_invV (y := m_X10_field) (pc := 25) ca_8 (av := [vI (1 : Int32), vI (-1 : Int32)]) (o := p0) (st := []) dX10_field_25 lk_X10_85 im_X10_refused se_X10_refused rfl rfl rfl rfl ⟨by decide, by decide⟩ (c_X10_refused cx.1 p0 (1 : Int32) (-1 : Int32)) (fun r13 => ?_)
  exact sn_ireturn rfl dX10_field_28
set_option maxRecDepth 100000 in
theorem c_X10_field (g : Gl) (p0 : (Option Nat)) (p1 : Int32) (p2 : Int32) : Cn g m_X10_field eI [vA p0, vI p1, vI p2] (mCk 8 p0 (f_X10_field p0 p1 p2)) := cn_of_sn (by decide +kernel) rfl (fun r => ⟨r, rfl⟩) rfl (fun _ _ => sn_ck (s_X10_field p0 p1 p2))
/-! X10_log -/
def f_X10_log (p0 : (Option Nat)) (p1 : Int32) (p2 : Int32) : Mo Int32 :=
  mBd (mGetA 8 8 p0) (fun r1 => mBd (mCk 0 r1 (f_X0_fieldAt r1 p1)) (fun r2 => (if r2 = none then mBd (mCk 8 p0 (f_X10_refused p0 (1 : Int32) (-1 : Int32))) (fun r7 => mRt r7) else mBd (mCk 2 r2 (f_X2_hasUnit r2 p2)) (fun r3 => (if ¬ r3 = 0 then mBd (mCk 2 r2 (f_X2_logOf r2 p2)) (fun r4 => mBd (mCk 8 p0 (f_X10_answered p0 r4)) (fun r5 => mRt r5)) else mBd (mCk 8 p0 (f_X10_refused p0 (2 : Int32) (-1 : Int32))) (fun r6 => mRt r6))))))
set_option maxRecDepth 100000 in
theorem s_X10_log {cx : CX} (p0 : (Option Nat)) (p1 : Int32) (p2 : Int32) : Sn cx m_X10_log eI 0 [(0, vA p0), (1, vI p1), (2, vI p2)] [] (f_X10_log p0 p1 p2) := by
  refine sn_aload_n (y := m_X10_log) (pc := 0) dX10_log_0 rfl ?_
  refine sn_getA (y := m_X10_log) (pc := 1) ca_8 rfl fk_X10_53 (fun _ _ _ => rfl) dX10_log_1 (fun r1 => ?_)
  refine sn_iload_n (y := m_X10_log) (pc := 4) dX10_log_4 rfl ?_
  refine sn_invV (y := m_X10_log) (pc := 5) ca_0 (av := [vI p1]) (o := r1) (st := []) dX10_log_5 lk_X10_111 im_X0_fieldAt se_X0_fieldAt rfl rfl rfl rfl ⟨by decide, by decide⟩ (c_X0_fieldAt cx.1 r1 p1) (fun r2 => ?_)
  refine sn_astore_n (y := m_X10_log) (pc := 8) dX10_log_8 rfl ?_
  refine sn_aload_n (y := m_X10_log) (pc := 9) dX10_log_9 rfl ?_
  refine sn_ifnonnull (y := m_X10_log) (pc := 10) (tgt := 20) dX10_log_10 (by decide) ?_ ?_
  · refine sn_aload_n (y := m_X10_log) (pc := 13) dX10_log_13 rfl ?_
    refine sn_iconst (y := m_X10_log) (pc := 14) dX10_log_14 kc_iconst_1 ?_
    refine sn_iconst (y := m_X10_log) (pc := 15) dX10_log_15 kc_iconst_m1 ?_
    refine sn_invV (y := m_X10_log) (pc := 16) ca_8 (av := [vI (1 : Int32), vI (-1 : Int32)]) (o := p0) (st := []) dX10_log_16 lk_X10_85 im_X10_refused se_X10_refused rfl rfl rfl rfl ⟨by decide, by decide⟩ (c_X10_refused cx.1 p0 (1 : Int32) (-1 : Int32)) (fun r7 => ?_)
    exact sn_ireturn rfl dX10_log_19
  refine sn_aload_n (y := m_X10_log) (pc := 20) dX10_log_20 rfl ?_
  refine sn_iload_n (y := m_X10_log) (pc := 21) dX10_log_21 rfl ?_
  refine sn_invV (y := m_X10_log) (pc := 22) ca_2 (av := [vI p2]) (o := r2) (st := []) dX10_log_22 lk_X10_129 im_X2_hasUnit se_X2_hasUnit rfl rfl rfl rfl ⟨by decide, by decide⟩ (c_X2_hasUnit cx.1 r2 p2) (fun r3 => ?_)
  refine sn_if_ne (y := m_X10_log) (pc := 25) (tgt := 35) dX10_log_25 (by decide) (fun _ => ?_) (fun _ => ?_)
  · refine sn_aload_n (y := m_X10_log) (pc := 35) dX10_log_35 rfl ?_
    refine sn_aload_n (y := m_X10_log) (pc := 36) dX10_log_36 rfl ?_
    refine sn_iload_n (y := m_X10_log) (pc := 37) dX10_log_37 rfl ?_
    refine sn_invV (y := m_X10_log) (pc := 38) ca_2 (av := [vI p2]) (o := r2) (st := [vA p0]) dX10_log_38 lk_X10_132 im_X2_logOf se_X2_logOf rfl rfl rfl rfl ⟨by decide, by decide⟩ (c_X2_logOf cx.1 r2 p2) (fun r4 => ?_)
    refine sn_invV (y := m_X10_log) (pc := 41) ca_8 (av := [vI r4]) (o := p0) (st := []) dX10_log_41 lk_X10_108 im_X10_answered se_X10_answered rfl rfl rfl rfl ⟨by decide, by decide⟩ (c_X10_answered cx.1 p0 r4) (fun r5 => ?_)
    exact sn_ireturn rfl dX10_log_44
  refine sn_aload_n (y := m_X10_log) (pc := 28) dX10_log_28 rfl ?_
  refine sn_iconst (y := m_X10_log) (pc := 29) dX10_log_29 kc_iconst_2 ?_
  refine sn_iconst (y := m_X10_log) (pc := 30) dX10_log_30 kc_iconst_m1 ?_
  refine sn_invV (y := m_X10_log) (pc := 31) ca_8 (av := [vI (2 : Int32), vI (-1 : Int32)]) (o := p0) (st := []) dX10_log_31 lk_X10_85 im_X10_refused se_X10_refused rfl rfl rfl rfl ⟨by decide, by decide⟩ (c_X10_refused cx.1 p0 (2 : Int32) (-1 : Int32)) (fun r6 => ?_)
  exact sn_ireturn rfl dX10_log_34
set_option maxRecDepth 100000 in
theorem c_X10_log (g : Gl) (p0 : (Option Nat)) (p1 : Int32) (p2 : Int32) : Cn g m_X10_log eI [vA p0, vI p1, vI p2] (mCk 8 p0 (f_X10_log p0 p1 p2)) := cn_of_sn (by decide +kernel) rfl (fun r => ⟨r, rfl⟩) rfl (fun _ _ => sn_ck (s_X10_log p0 p1 p2))
/-! X10_character -/
def f_X10_character (p0 : (Option Nat)) (p1 : Int32) (p2 : Int32) (p3 : Int32) : Mo Int32 :=
  mBd (mGetA 8 8 p0) (fun r1 => mBd (mCk 0 r1 (f_X0_fieldAt r1 p1)) (fun r2 => (if r2 = none then mBd (mCk 8 p0 (f_X10_refused p0 (1 : Int32) (-1 : Int32))) (fun r3 => mRt r3) else mBd (mCk 2 r2 (f_X2_hasCharacter r2 p2)) (fun r4 => (if ¬ r4 = 0 then mBd (mCk 2 r2 (f_X2_hasNumber r2 p3)) (fun r5 => (if ¬ r5 = 0 then mBd (mCk 2 r2 (f_X2_characterAt r2 p2 p3)) (fun r6 => mBd (mCk 8 p0 (f_X10_answered p0 r6)) (fun r7 => mRt r7)) else mBd (mCk 8 p0 (f_X10_refused p0 (2 : Int32) (-1 : Int32))) (fun r8 => mRt r8))) else mBd (mCk 8 p0 (f_X10_refused p0 (1 : Int32) (-1 : Int32))) (fun r9 => mRt r9))))))
set_option maxRecDepth 100000 in
theorem s_X10_character {cx : CX} (p0 : (Option Nat)) (p1 : Int32) (p2 : Int32) (p3 : Int32) : Sn cx m_X10_character eI 0 [(0, vA p0), (1, vI p1), (2, vI p2), (3, vI p3)] [] (f_X10_character p0 p1 p2 p3) := by
  refine sn_aload_n (y := m_X10_character) (pc := 0) dX10_character_0 rfl ?_
  refine sn_getA (y := m_X10_character) (pc := 1) ca_8 rfl fk_X10_53 (fun _ _ _ => rfl) dX10_character_1 (fun r1 => ?_)
  refine sn_iload_n (y := m_X10_character) (pc := 4) dX10_character_4 rfl ?_
  refine sn_invV (y := m_X10_character) (pc := 5) ca_0 (av := [vI p1]) (o := r1) (st := []) dX10_character_5 lk_X10_111 im_X0_fieldAt se_X0_fieldAt rfl rfl rfl rfl ⟨by decide, by decide⟩ (c_X0_fieldAt cx.1 r1 p1) (fun r2 => ?_)
  refine sn_astore (y := m_X10_character) (pc := 8) dX10_character_8 rfl ?_
  refine sn_aload (y := m_X10_character) (pc := 10) dX10_character_10 rfl ?_
  refine sn_ifnull (y := m_X10_character) (pc := 12) (tgt := 24) dX10_character_12 (by decide) ?_ ?_
  · refine sn_aload_n (y := m_X10_character) (pc := 24) dX10_character_24 rfl ?_
    refine sn_iconst (y := m_X10_character) (pc := 25) dX10_character_25 kc_iconst_1 ?_
    refine sn_iconst (y := m_X10_character) (pc := 26) dX10_character_26 kc_iconst_m1 ?_
    refine sn_invV (y := m_X10_character) (pc := 27) ca_8 (av := [vI (1 : Int32), vI (-1 : Int32)]) (o := p0) (st := []) dX10_character_27 lk_X10_85 im_X10_refused se_X10_refused rfl rfl rfl rfl ⟨by decide, by decide⟩ (c_X10_refused cx.1 p0 (1 : Int32) (-1 : Int32)) (fun r3 => ?_)
    exact sn_ireturn rfl dX10_character_30
  refine sn_aload (y := m_X10_character) (pc := 15) dX10_character_15 rfl ?_
  refine sn_iload_n (y := m_X10_character) (pc := 17) dX10_character_17 rfl ?_
  refine sn_invV (y := m_X10_character) (pc := 18) ca_2 (av := [vI p2]) (o := r2) (st := []) dX10_character_18 lk_X10_135 im_X2_hasCharacter se_X2_hasCharacter rfl rfl rfl rfl ⟨by decide, by decide⟩ (c_X2_hasCharacter cx.1 r2 p2) (fun r4 => ?_)
  refine sn_if_ne (y := m_X10_character) (pc := 21) (tgt := 31) dX10_character_21 (by decide) (fun _ => ?_) (fun _ => ?_)
  · refine sn_aload (y := m_X10_character) (pc := 31) dX10_character_31 rfl ?_
    refine sn_iload_n (y := m_X10_character) (pc := 33) dX10_character_33 rfl ?_
    refine sn_invV (y := m_X10_character) (pc := 34) ca_2 (av := [vI p3]) (o := r2) (st := []) dX10_character_34 lk_X10_138 im_X2_hasNumber se_X2_hasNumber rfl rfl rfl rfl ⟨by decide, by decide⟩ (c_X2_hasNumber cx.1 r2 p3) (fun r5 => ?_)
    refine sn_if_ne (y := m_X10_character) (pc := 37) (tgt := 47) dX10_character_37 (by decide) (fun _ => ?_) (fun _ => ?_)
    · refine sn_aload_n (y := m_X10_character) (pc := 47) dX10_character_47 rfl ?_
      refine sn_aload (y := m_X10_character) (pc := 48) dX10_character_48 rfl ?_
      refine sn_iload_n (y := m_X10_character) (pc := 50) dX10_character_50 rfl ?_
      refine sn_iload_n (y := m_X10_character) (pc := 51) dX10_character_51 rfl ?_
      refine sn_invV (y := m_X10_character) (pc := 52) ca_2 (av := [vI p2, vI p3]) (o := r2) (st := [vA p0]) dX10_character_52 lk_X10_141 im_X2_characterAt se_X2_characterAt rfl rfl rfl rfl ⟨by decide, by decide⟩ (c_X2_characterAt cx.1 r2 p2 p3) (fun r6 => ?_)
      refine sn_invV (y := m_X10_character) (pc := 55) ca_8 (av := [vI r6]) (o := p0) (st := []) dX10_character_55 lk_X10_108 im_X10_answered se_X10_answered rfl rfl rfl rfl ⟨by decide, by decide⟩ (c_X10_answered cx.1 p0 r6) (fun r7 => ?_)
      exact sn_ireturn rfl dX10_character_58
    refine sn_aload_n (y := m_X10_character) (pc := 40) dX10_character_40 rfl ?_
    refine sn_iconst (y := m_X10_character) (pc := 41) dX10_character_41 kc_iconst_2 ?_
    refine sn_iconst (y := m_X10_character) (pc := 42) dX10_character_42 kc_iconst_m1 ?_
    refine sn_invV (y := m_X10_character) (pc := 43) ca_8 (av := [vI (2 : Int32), vI (-1 : Int32)]) (o := p0) (st := []) dX10_character_43 lk_X10_85 im_X10_refused se_X10_refused rfl rfl rfl rfl ⟨by decide, by decide⟩ (c_X10_refused cx.1 p0 (2 : Int32) (-1 : Int32)) (fun r8 => ?_)
    exact sn_ireturn rfl dX10_character_46
  refine sn_aload_n (y := m_X10_character) (pc := 24) dX10_character_24 rfl ?_
  refine sn_iconst (y := m_X10_character) (pc := 25) dX10_character_25 kc_iconst_1 ?_
  refine sn_iconst (y := m_X10_character) (pc := 26) dX10_character_26 kc_iconst_m1 ?_
  refine sn_invV (y := m_X10_character) (pc := 27) ca_8 (av := [vI (1 : Int32), vI (-1 : Int32)]) (o := p0) (st := []) dX10_character_27 lk_X10_85 im_X10_refused se_X10_refused rfl rfl rfl rfl ⟨by decide, by decide⟩ (c_X10_refused cx.1 p0 (1 : Int32) (-1 : Int32)) (fun r9 => ?_)
  exact sn_ireturn rfl dX10_character_30
set_option maxRecDepth 100000 in
theorem c_X10_character (g : Gl) (p0 : (Option Nat)) (p1 : Int32) (p2 : Int32) (p3 : Int32) : Cn g m_X10_character eI [vA p0, vI p1, vI p2, vI p3] (mCk 8 p0 (f_X10_character p0 p1 p2 p3)) := cn_of_sn (by decide +kernel) rfl (fun r => ⟨r, rfl⟩) rfl (fun _ _ => sn_ck (s_X10_character p0 p1 p2 p3))
/-! X10_hasSum -/
def f_X10_hasSum (p0 : (Option Nat)) (p1 : Int32) (p2 : Int32) : Mo Int32 :=
  (if p0 = none then mRt (0 : Int32) else mBd (mCk 2 p0 (f_X2_hasCharacter p0 p1)) (fun r1 => (if r1 = 0 then mRt (0 : Int32) else mBd (mCk 2 p0 (f_X2_hasCharacter p0 p2)) (fun r2 => (if r2 = 0 then mRt (0 : Int32) else mRt (1 : Int32))))))
set_option maxRecDepth 100000 in
theorem s_X10_hasSum {cx : CX} (p0 : (Option Nat)) (p1 : Int32) (p2 : Int32) : Sn cx m_X10_hasSum eI 0 [(0, vA p0), (1, vI p1), (2, vI p2)] [] (f_X10_hasSum p0 p1 p2) := by
  refine sn_aload_n (y := m_X10_hasSum) (pc := 0) dX10_hasSum_0 rfl ?_
  refine sn_ifnull (y := m_X10_hasSum) (pc := 1) (tgt := 24) dX10_hasSum_1 (by decide) ?_ ?_
  · refine sn_iconst (y := m_X10_hasSum) (pc := 24) dX10_hasSum_24 kc_iconst_0 ?_
    exact sn_zreturnC (by decide) rfl dX10_hasSum_25
  refine sn_aload_n (y := m_X10_hasSum) (pc := 4) dX10_hasSum_4 rfl ?_
  refine sn_iload_n (y := m_X10_hasSum) (pc := 5) dX10_hasSum_5 rfl ?_
  refine sn_invV (y := m_X10_hasSum) (pc := 6) ca_2 (av := [vI p1]) (o := p0) (st := []) dX10_hasSum_6 lk_X10_135 im_X2_hasCharacter se_X2_hasCharacter rfl rfl rfl rfl ⟨by decide, by decide⟩ (c_X2_hasCharacter cx.1 p0 p1) (fun r1 => ?_)
  refine sn_if_eq (y := m_X10_hasSum) (pc := 9) (tgt := 24) dX10_hasSum_9 (by decide) (fun _ => ?_) (fun _ => ?_)
  · refine sn_iconst (y := m_X10_hasSum) (pc := 24) dX10_hasSum_24 kc_iconst_0 ?_
    exact sn_zreturnC (by decide) rfl dX10_hasSum_25
  refine sn_aload_n (y := m_X10_hasSum) (pc := 12) dX10_hasSum_12 rfl ?_
  refine sn_iload_n (y := m_X10_hasSum) (pc := 13) dX10_hasSum_13 rfl ?_
  refine sn_invV (y := m_X10_hasSum) (pc := 14) ca_2 (av := [vI p2]) (o := p0) (st := []) dX10_hasSum_14 lk_X10_135 im_X2_hasCharacter se_X2_hasCharacter rfl rfl rfl rfl ⟨by decide, by decide⟩ (c_X2_hasCharacter cx.1 p0 p2) (fun r2 => ?_)
  refine sn_if_eq (y := m_X10_hasSum) (pc := 17) (tgt := 24) dX10_hasSum_17 (by decide) (fun _ => ?_) (fun _ => ?_)
  · refine sn_iconst (y := m_X10_hasSum) (pc := 24) dX10_hasSum_24 kc_iconst_0 ?_
    exact sn_zreturnC (by decide) rfl dX10_hasSum_25
  refine sn_iconst (y := m_X10_hasSum) (pc := 20) dX10_hasSum_20 kc_iconst_1 ?_
  refine sn_goto (y := m_X10_hasSum) (pc := 21) (tgt := 25) dX10_hasSum_21 (by decide) ?_
  exact sn_zreturnC (by decide) rfl dX10_hasSum_25
set_option maxRecDepth 100000 in
theorem c_X10_hasSum (g : Gl) (p0 : (Option Nat)) (p1 : Int32) (p2 : Int32) : Cn g m_X10_hasSum eI [vA p0, vI p1, vI p2] (f_X10_hasSum p0 p1 p2) := cn_of_sn (by decide +kernel) rfl (fun r => ⟨r, rfl⟩) rfl (fun _ _ => s_X10_hasSum p0 p1 p2)
