/-! X2_evenness -/
def f_X2_evenness_b114 (x0 : (Option Nat)) (x1 : Int32) (k114 : Int32 → Mo Int32) (x2 : Int32) : Mo Int32 :=
  mBd (mGetI 2 3 x0) (fun r5 => (if x2 ≥ r5 then mRt x1 else mBd (mGetA 2 2 x0) (fun r6 => mBd (f_X6_cell r6 x2) (fun r7 => (if r7 = x1 then k114 (x2 + 1) else mRt (-2 : Int32))))))
def f_X2_evenness_l114 (x0 : (Option Nat)) (x1 : Int32) : Int32 → Mo Int32 := lq1 (f_X2_evenness_b114 x0 x1) fuel
set_option maxRecDepth 100000 in
theorem s_X2_evenness_b114 {cx : CX} (x0 : (Option Nat)) (x1 : Int32) {k114 : Int32 → Mo Int32} (hk114 : ∀ (z2 : Int32), Sn cx m_X2_evenness eI 114 [(2, vI z2), (0, vA x0), (1, vI x1)] [] (k114 z2)) (x2 : Int32) : Sn cx m_X2_evenness eI 114 [(2, vI x2), (0, vA x0), (1, vI x1)] [] (f_X2_evenness_b114 x0 x1 k114 x2) := by
  refine sn_iload_n (y := m_X2_evenness) (pc := 114) dX2_evenness_114 rfl ?_
  refine sn_aload_n (y := m_X2_evenness) (pc := 115) dX2_evenness_115 rfl ?_
  refine sn_getI (y := m_X2_evenness) (pc := 116) ca_2 rfl fk_X2_21 (fun _ _ _ => rfl) dX2_evenness_116 (fun r5 => ?_)
  refine sn_icmp_ge (y := m_X2_evenness) (pc := 119) (tgt := 143) dX2_evenness_119 (by decide) (fun _ => ?_) (fun _ => ?_)
  · refine sn_iload_n (y := m_X2_evenness) (pc := 143) dX2_evenness_143 rfl ?_
    exact sn_ireturn rfl dX2_evenness_144
  refine sn_aload_n (y := m_X2_evenness) (pc := 122) dX2_evenness_122 rfl ?_
  refine sn_getA (y := m_X2_evenness) (pc := 123) ca_2 rfl fk_X2_18 (fun _ _ _ => rfl) dX2_evenness_123 (fun r6 => ?_)
  refine sn_iload_n (y := m_X2_evenness) (pc := 126) dX2_evenness_126 rfl ?_
  refine sn_invS (y := m_X2_evenness) (pc := 127) (av := [vA r6, vI x2]) (st := []) dX2_evenness_127 lk_X2_42 sw_X6_cell rfl rfl rfl ⟨by decide, by decide⟩ (c_X6_cell cx.1 r6 x2) (fun r7 => ?_)
  refine sn_iload_n (y := m_X2_evenness) (pc := 130) dX2_evenness_130 rfl ?_
  refine sn_icmp_eq (y := m_X2_evenness) (pc := 131) (tgt := 137) dX2_evenness_131 (by decide) (fun _ => ?_) (fun _ => ?_)
  · refine sn_iinc (y := m_X2_evenness) (pc := 137) (v := x2 + 1) dX2_evenness_137 rfl (by rfl) rfl ?_
    refine sn_goto (y := m_X2_evenness) (pc := 140) (tgt := 114) dX2_evenness_140 (by decide) ?_
    exact sn_sub rfl (hk114 (x2 + 1))
  refine sn_bipush (y := m_X2_evenness) (pc := 134) dX2_evenness_134 kc_bipush_m2 ?_
  exact sn_ireturn rfl dX2_evenness_136
set_option maxRecDepth 100000 in
theorem s_X2_evenness_l114 {cx : CX} (x0 : (Option Nat)) (x1 : Int32) (x2 : Int32) : Sn cx m_X2_evenness eI 114 [(2, vI x2), (0, vA x0), (1, vI x1)] [] (f_X2_evenness_l114 x0 x1 x2) :=
  sn_lq1 (L := fun x2 => [(2, vI x2), (0, vA x0), (1, vI x1)]) (fun k hk x2 => s_X2_evenness_b114 x0 x1 hk x2) fuel x2
def f_X2_evenness_b37 (k27 : Int32 → Mo Int32) (x0 : (Option Nat)) (x1 : Int32) (k37 : Int32 → Mo Int32) (x2 : Int32) : Mo Int32 :=
  mBd (mGetI 2 3 x0) (fun r8 => (if x2 ≥ r8 then k27 (x1 + 1) else mBd (mCk 2 x0 (f_X2_isOrderPower x0 x1)) (fun r9 => (if r9 = 0 then k27 (x1 + 1) else mBd (mCk 2 x0 (f_X2_isOrderPower x0 x2)) (fun r10 => (if r10 = 0 then k37 (x2 + 1) else mBd (mGetI 2 3 x0) (fun r11 => mBd (f_X6_mod ((x1 - x2).toInt64) r11) (fun r12 => mBd (mGetA 2 2 x0) (fun r13 => mBd (mGetA 2 2 x0) (fun r14 => mBd (f_X6_cell r14 r12) (fun r15 => mBd (f_X6_mark r13 r12 (r15 + (1 : Int32))) (fun _ => k37 (x2 + 1)))))))))))))
def f_X2_evenness_l37 (k27 : Int32 → Mo Int32) (x0 : (Option Nat)) (x1 : Int32) : Int32 → Mo Int32 := lq1 (f_X2_evenness_b37 k27 x0 x1) fuel
set_option maxRecDepth 100000 in
theorem s_X2_evenness_b37 {cx : CX} {k27 : Int32 → Mo Int32} (x0 : (Option Nat)) (x1 : Int32) (hk27 : ∀ (z1 : Int32), Sn cx m_X2_evenness eI 27 [(1, vI z1), (0, vA x0)] [] (k27 z1)) {k37 : Int32 → Mo Int32} (hk37 : ∀ (z2 : Int32), Sn cx m_X2_evenness eI 37 [(2, vI z2), (0, vA x0), (1, vI x1)] [] (k37 z2)) (x2 : Int32) : Sn cx m_X2_evenness eI 37 [(2, vI x2), (0, vA x0), (1, vI x1)] [] (f_X2_evenness_b37 k27 x0 x1 k37 x2) := by
  refine sn_iload_n (y := m_X2_evenness) (pc := 37) dX2_evenness_37 rfl ?_
  refine sn_aload_n (y := m_X2_evenness) (pc := 38) dX2_evenness_38 rfl ?_
  refine sn_getI (y := m_X2_evenness) (pc := 39) ca_2 rfl fk_X2_21 (fun _ _ _ => rfl) dX2_evenness_39 (fun r8 => ?_)
  refine sn_icmp_ge (y := m_X2_evenness) (pc := 42) (tgt := 97) dX2_evenness_42 (by decide) (fun _ => ?_) (fun _ => ?_)
  · refine sn_iinc (y := m_X2_evenness) (pc := 97) (v := x1 + 1) dX2_evenness_97 rfl (by rfl) rfl ?_
    refine sn_goto (y := m_X2_evenness) (pc := 100) (tgt := 27) dX2_evenness_100 (by decide) ?_
    exact sn_sub rfl (hk27 (x1 + 1))
  refine sn_aload_n (y := m_X2_evenness) (pc := 45) dX2_evenness_45 rfl ?_
  refine sn_iload_n (y := m_X2_evenness) (pc := 46) dX2_evenness_46 rfl ?_
  refine sn_invV (y := m_X2_evenness) (pc := 47) ca_2 (av := [vI x1]) (o := x0) (st := []) dX2_evenness_47 lk_X2_83 im_X2_isOrderPower se_X2_isOrderPower rfl rfl rfl rfl ⟨by decide, by decide⟩ (c_X2_isOrderPower cx.1 x0 x1) (fun r9 => ?_)
  refine sn_if_eq (y := m_X2_evenness) (pc := 50) (tgt := 97) dX2_evenness_50 (by decide) (fun _ => ?_) (fun _ => ?_)
  · refine sn_iinc (y := m_X2_evenness) (pc := 97) (v := x1 + 1) dX2_evenness_97 rfl (by rfl) rfl ?_
    refine sn_goto (y := m_X2_evenness) (pc := 100) (tgt := 27) dX2_evenness_100 (by decide) ?_
    exact sn_sub rfl (hk27 (x1 + 1))
  refine sn_aload_n (y := m_X2_evenness) (pc := 53) dX2_evenness_53 rfl ?_
  refine sn_iload_n (y := m_X2_evenness) (pc := 54) dX2_evenness_54 rfl ?_
  refine sn_invV (y := m_X2_evenness) (pc := 55) ca_2 (av := [vI x2]) (o := x0) (st := []) dX2_evenness_55 lk_X2_83 im_X2_isOrderPower se_X2_isOrderPower rfl rfl rfl rfl ⟨by decide, by decide⟩ (c_X2_isOrderPower cx.1 x0 x2) (fun r10 => ?_)
  refine sn_if_eq (y := m_X2_evenness) (pc := 58) (tgt := 91) dX2_evenness_58 (by decide) (fun _ => ?_) (fun _ => ?_)
  · refine sn_iinc (y := m_X2_evenness) (pc := 91) (v := x2 + 1) dX2_evenness_91 rfl (by rfl) rfl ?_
    refine sn_goto (y := m_X2_evenness) (pc := 94) (tgt := 37) dX2_evenness_94 (by decide) ?_
    exact sn_sub rfl (hk37 (x2 + 1))
  refine sn_iload_n (y := m_X2_evenness) (pc := 61) dX2_evenness_61 rfl ?_
  refine sn_iload_n (y := m_X2_evenness) (pc := 62) dX2_evenness_62 rfl ?_
  refine sn_isub (y := m_X2_evenness) (pc := 63) dX2_evenness_63 ?_
  refine sn_i2l (y := m_X2_evenness) (pc := 64) dX2_evenness_64 ?_
  refine sn_aload_n (y := m_X2_evenness) (pc := 65) dX2_evenness_65 rfl ?_
  refine sn_getI (y := m_X2_evenness) (pc := 66) ca_2 rfl fk_X2_21 (fun _ _ _ => rfl) dX2_evenness_66 (fun r11 => ?_)
  refine sn_invS (y := m_X2_evenness) (pc := 69) (av := [vJ ((x1 - x2).toInt64), vI r11]) (st := []) dX2_evenness_69 lk_X2_38 sw_X6_mod rfl rfl rfl ⟨by decide, by decide⟩ (c_X6_mod cx.1 ((x1 - x2).toInt64) r11) (fun r12 => ?_)
  refine sn_istore_n (y := m_X2_evenness) (pc := 72) dX2_evenness_72 rfl ?_
  refine sn_aload_n (y := m_X2_evenness) (pc := 73) dX2_evenness_73 rfl ?_
  refine sn_getA (y := m_X2_evenness) (pc := 74) ca_2 rfl fk_X2_18 (fun _ _ _ => rfl) dX2_evenness_74 (fun r13 => ?_)
  refine sn_iload_n (y := m_X2_evenness) (pc := 77) dX2_evenness_77 rfl ?_
  refine sn_aload_n (y := m_X2_evenness) (pc := 78) dX2_evenness_78 rfl ?_
  refine sn_getA (y := m_X2_evenness) (pc := 79) ca_2 rfl fk_X2_18 (fun _ _ _ => rfl) dX2_evenness_79 (fun r14 => ?_)
  refine sn_iload_n (y := m_X2_evenness) (pc := 82) dX2_evenness_82 rfl ?_
  refine sn_invS (y := m_X2_evenness) (pc := 83) (av := [vA r14, vI r12]) (st := [vI r12, vA r13]) dX2_evenness_83 lk_X2_42 sw_X6_cell rfl rfl rfl ⟨by decide, by decide⟩ (c_X6_cell cx.1 r14 r12) (fun r15 => ?_)
  refine sn_iconst (y := m_X2_evenness) (pc := 86) dX2_evenness_86 kc_iconst_1 ?_
  refine sn_iadd (y := m_X2_evenness) (pc := 87) dX2_evenness_87 ?_
  refine sn_invS (y := m_X2_evenness) (pc := 88) (av := [vA r13, vI r12, vI (r15 + (1 : Int32))]) (st := []) dX2_evenness_88 lk_X2_32 sw_X6_mark rfl rfl rfl ⟨by decide, by decide⟩ (c_X6_mark cx.1 r13 r12 (r15 + (1 : Int32))) (fun _ => ?_)
  refine sn_iinc (y := m_X2_evenness) (pc := 91) (v := x2 + 1) dX2_evenness_91 rfl (by rfl) rfl ?_
  refine sn_goto (y := m_X2_evenness) (pc := 94) (tgt := 37) dX2_evenness_94 (by decide) ?_
  exact sn_sub rfl (hk37 (x2 + 1))
set_option maxRecDepth 100000 in
theorem s_X2_evenness_l37 {cx : CX} {k27 : Int32 → Mo Int32} (x0 : (Option Nat)) (x1 : Int32) (hk27 : ∀ (z1 : Int32), Sn cx m_X2_evenness eI 27 [(1, vI z1), (0, vA x0)] [] (k27 z1)) (x2 : Int32) : Sn cx m_X2_evenness eI 37 [(2, vI x2), (0, vA x0), (1, vI x1)] [] (f_X2_evenness_l37 k27 x0 x1 x2) :=
  sn_lq1 (L := fun x2 => [(2, vI x2), (0, vA x0), (1, vI x1)]) (fun k hk x2 => s_X2_evenness_b37 x0 x1 hk27 hk x2) fuel x2
def f_X2_evenness_b27 (x0 : (Option Nat)) (k27 : Int32 → Mo Int32) (x1 : Int32) : Mo Int32 :=
  mBd (mGetI 2 3 x0) (fun r2 => (if x1 ≥ r2 then mBd (mGetA 2 2 x0) (fun r3 => mBd (f_X6_cell r3 (1 : Int32)) (fun r4 => f_X2_evenness_l114 x0 r4 (2 : Int32))) else f_X2_evenness_l37 k27 x0 x1 (1 : Int32)))
def f_X2_evenness_l27 (x0 : (Option Nat)) : Int32 → Mo Int32 := lq1 (f_X2_evenness_b27 x0) fuel
set_option maxRecDepth 100000 in
theorem s_X2_evenness_b27 {cx : CX} (x0 : (Option Nat)) {k27 : Int32 → Mo Int32} (hk27 : ∀ (z1 : Int32), Sn cx m_X2_evenness eI 27 [(1, vI z1), (0, vA x0)] [] (k27 z1)) (x1 : Int32) : Sn cx m_X2_evenness eI 27 [(1, vI x1), (0, vA x0)] [] (f_X2_evenness_b27 x0 k27 x1) := by
  refine sn_iload_n (y := m_X2_evenness) (pc := 27) dX2_evenness_27 rfl ?_
  refine sn_aload_n (y := m_X2_evenness) (pc := 28) dX2_evenness_28 rfl ?_
  refine sn_getI (y := m_X2_evenness) (pc := 29) ca_2 rfl fk_X2_21 (fun _ _ _ => rfl) dX2_evenness_29 (fun r2 => ?_)
  refine sn_icmp_ge (y := m_X2_evenness) (pc := 32) (tgt := 103) dX2_evenness_32 (by decide) (fun _ => ?_) (fun _ => ?_)
  · refine sn_aload_n (y := m_X2_evenness) (pc := 103) dX2_evenness_103 rfl ?_
    refine sn_getA (y := m_X2_evenness) (pc := 104) ca_2 rfl fk_X2_18 (fun _ _ _ => rfl) dX2_evenness_104 (fun r3 => ?_)
    refine sn_iconst (y := m_X2_evenness) (pc := 107) dX2_evenness_107 kc_iconst_1 ?_
    refine sn_invS (y := m_X2_evenness) (pc := 108) (av := [vA r3, vI (1 : Int32)]) (st := []) dX2_evenness_108 lk_X2_42 sw_X6_cell rfl rfl rfl ⟨by decide, by decide⟩ (c_X6_cell cx.1 r3 (1 : Int32)) (fun r4 => ?_)
    refine sn_istore_n (y := m_X2_evenness) (pc := 111) dX2_evenness_111 rfl ?_
    refine sn_iconst (y := m_X2_evenness) (pc := 112) dX2_evenness_112 kc_iconst_2 ?_
    refine sn_istore_n (y := m_X2_evenness) (pc := 113) dX2_evenness_113 rfl ?_
    exact sn_sub rfl (s_X2_evenness_l114 x0 r4 (2 : Int32))
  refine sn_iconst (y := m_X2_evenness) (pc := 35) dX2_evenness_35 kc_iconst_1 ?_
  refine sn_istore_n (y := m_X2_evenness) (pc := 36) dX2_evenness_36 rfl ?_
  exact sn_sub rfl (s_X2_evenness_l37 x0 x1 hk27 (1 : Int32))
set_option maxRecDepth 100000 in
theorem s_X2_evenness_l27 {cx : CX} (x0 : (Option Nat)) (x1 : Int32) : Sn cx m_X2_evenness eI 27 [(1, vI x1), (0, vA x0)] [] (f_X2_evenness_l27 x0 x1) :=
  sn_lq1 (L := fun x1 => [(1, vI x1), (0, vA x0)]) (fun k hk x1 => s_X2_evenness_b27 x0 hk x1) fuel x1
def f_X2_evenness_b2 (x0 : (Option Nat)) (k2 : Int32 → Mo Int32) (x1 : Int32) : Mo Int32 :=
  mBd (mGetI 2 3 x0) (fun r1 => (if x1 ≥ r1 then f_X2_evenness_l27 x0 (1 : Int32) else mBd (mGetA 2 2 x0) (fun r16 => mBd (f_X6_mark r16 x1 (0 : Int32)) (fun _ => k2 (x1 + 1)))))
def f_X2_evenness_l2 (x0 : (Option Nat)) : Int32 → Mo Int32 := lq1 (f_X2_evenness_b2 x0) fuel
set_option maxRecDepth 100000 in
theorem s_X2_evenness_b2 {cx : CX} (x0 : (Option Nat)) {k2 : Int32 → Mo Int32} (hk2 : ∀ (z1 : Int32), Sn cx m_X2_evenness eI 2 [(1, vI z1), (0, vA x0)] [] (k2 z1)) (x1 : Int32) : Sn cx m_X2_evenness eI 2 [(1, vI x1), (0, vA x0)] [] (f_X2_evenness_b2 x0 k2 x1) := by
  refine sn_iload_n (y := m_X2_evenness) (pc := 2) dX2_evenness_2 rfl ?_
  refine sn_aload_n (y := m_X2_evenness) (pc := 3) dX2_evenness_3 rfl ?_
  refine sn_getI (y := m_X2_evenness) (pc := 4) ca_2 rfl fk_X2_21 (fun _ _ _ => rfl) dX2_evenness_4 (fun r1 => ?_)
  refine sn_icmp_ge (y := m_X2_evenness) (pc := 7) (tgt := 25) dX2_evenness_7 (by decide) (fun _ => ?_) (fun _ => ?_)
  · refine sn_iconst (y := m_X2_evenness) (pc := 25) dX2_evenness_25 kc_iconst_1 ?_
    refine sn_istore_n (y := m_X2_evenness) (pc := 26) dX2_evenness_26 rfl ?_
    exact sn_sub rfl (s_X2_evenness_l27 x0 (1 : Int32))
  refine sn_aload_n (y := m_X2_evenness) (pc := 10) dX2_evenness_10 rfl ?_
  refine sn_getA (y := m_X2_evenness) (pc := 11) ca_2 rfl fk_X2_18 (fun _ _ _ => rfl) dX2_evenness_11 (fun r16 => ?_)
  refine sn_iload_n (y := m_X2_evenness) (pc := 14) dX2_evenness_14 rfl ?_
  refine sn_iconst (y := m_X2_evenness) (pc := 15) dX2_evenness_15 kc_iconst_0 ?_
  refine sn_invS (y := m_X2_evenness) (pc := 16) (av := [vA r16, vI x1, vI (0 : Int32)]) (st := []) dX2_evenness_16 lk_X2_32 sw_X6_mark rfl rfl rfl ⟨by decide, by decide⟩ (c_X6_mark cx.1 r16 x1 (0 : Int32)) (fun _ => ?_)
  refine sn_iinc (y := m_X2_evenness) (pc := 19) (v := x1 + 1) dX2_evenness_19 rfl (by rfl) rfl ?_
  refine sn_goto (y := m_X2_evenness) (pc := 22) (tgt := 2) dX2_evenness_22 (by decide) ?_
  exact sn_sub rfl (hk2 (x1 + 1))
set_option maxRecDepth 100000 in
theorem s_X2_evenness_l2 {cx : CX} (x0 : (Option Nat)) (x1 : Int32) : Sn cx m_X2_evenness eI 2 [(1, vI x1), (0, vA x0)] [] (f_X2_evenness_l2 x0 x1) :=
  sn_lq1 (L := fun x1 => [(1, vI x1), (0, vA x0)]) (fun k hk x1 => s_X2_evenness_b2 x0 hk x1) fuel x1
def f_X2_evenness (p0 : (Option Nat)) : Mo Int32 :=
  f_X2_evenness_l2 p0 (0 : Int32)
set_option maxRecDepth 100000 in
theorem s_X2_evenness {cx : CX} (p0 : (Option Nat)) : Sn cx m_X2_evenness eI 0 [(0, vA p0)] [] (f_X2_evenness p0) := by
  refine sn_iconst (y := m_X2_evenness) (pc := 0) dX2_evenness_0 kc_iconst_0 ?_
  refine sn_istore_n (y := m_X2_evenness) (pc := 1) dX2_evenness_1 rfl ?_
  exact sn_sub rfl (s_X2_evenness_l2 p0 (0 : Int32))
set_option maxRecDepth 100000 in
theorem c_X2_evenness (g : Gl) (p0 : (Option Nat)) : Cn g m_X2_evenness eI [vA p0] (mCk 2 p0 (f_X2_evenness p0)) := cn_of_sn (by decide +kernel) rfl (fun r => ⟨r, rfl⟩) rfl (fun _ _ => sn_ck (s_X2_evenness p0))
/-! X2_powerOfRank -/
def f_X2_powerOfRank_b4 (x0 : (Option Nat)) (x1 : Int32) (k4 : Int32 → Int32 → Mo Int32) (x2 : Int32) (x3 : Int32) : Mo Int32 :=
  mBd (mGetI 2 3 x0) (fun r1 => (if x3 ≥ r1 then mRt (-1 : Int32) else mBd (mCk 2 x0 (f_X2_isOrderPower x0 x3)) (fun r2 => (if r2 = 0 then k4 x2 (x3 + 1) else (if ¬ x2 = x1 then k4 (x2 + 1) (x3 + 1) else mRt x3)))))
def f_X2_powerOfRank_l4 (x0 : (Option Nat)) (x1 : Int32) : Int32 → Int32 → Mo Int32 := lq2 (f_X2_powerOfRank_b4 x0 x1) fuel
set_option maxRecDepth 100000 in
theorem s_X2_powerOfRank_b4 {cx : CX} (x0 : (Option Nat)) (x1 : Int32) {k4 : Int32 → Int32 → Mo Int32} (hk4 : ∀ (z2 : Int32) (z3 : Int32), Sn cx m_X2_powerOfRank eI 4 [(2, vI z2), (3, vI z3), (0, vA x0), (1, vI x1)] [] (k4 z2 z3)) (x2 : Int32) (x3 : Int32) : Sn cx m_X2_powerOfRank eI 4 [(2, vI x2), (3, vI x3), (0, vA x0), (1, vI x1)] [] (f_X2_powerOfRank_b4 x0 x1 k4 x2 x3) := by
  refine sn_iload_n (y := m_X2_powerOfRank) (pc := 4) dX2_powerOfRank_4 rfl ?_
  refine sn_aload_n (y := m_X2_powerOfRank) (pc := 5) dX2_powerOfRank_5 rfl ?_
  refine sn_getI (y := m_X2_powerOfRank) (pc := 6) ca_2 rfl fk_X2_21 (fun _ _ _ => rfl) dX2_powerOfRank_6 (fun r1 => ?_)
  refine sn_icmp_ge (y := m_X2_powerOfRank) (pc := 9) (tgt := 36) dX2_powerOfRank_9 (by decide) (fun _ => ?_) (fun _ => ?_)
  · refine sn_iconst (y := m_X2_powerOfRank) (pc := 36) dX2_powerOfRank_36 kc_iconst_m1 ?_
    exact sn_ireturn rfl dX2_powerOfRank_37
  refine sn_aload_n (y := m_X2_powerOfRank) (pc := 12) dX2_powerOfRank_12 rfl ?_
  refine sn_iload_n (y := m_X2_powerOfRank) (pc := 13) dX2_powerOfRank_13 rfl ?_
  refine sn_invV (y := m_X2_powerOfRank) (pc := 14) ca_2 (av := [vI x3]) (o := x0) (st := []) dX2_powerOfRank_14 lk_X2_83 im_X2_isOrderPower se_X2_isOrderPower rfl rfl rfl rfl ⟨by decide, by decide⟩ (c_X2_isOrderPower cx.1 x0 x3) (fun r2 => ?_)
  refine sn_if_eq (y := m_X2_powerOfRank) (pc := 17) (tgt := 30) dX2_powerOfRank_17 (by decide) (fun _ => ?_) (fun _ => ?_)
  · refine sn_iinc (y := m_X2_powerOfRank) (pc := 30) (v := x3 + 1) dX2_powerOfRank_30 rfl (by rfl) rfl ?_
    refine sn_goto (y := m_X2_powerOfRank) (pc := 33) (tgt := 4) dX2_powerOfRank_33 (by decide) ?_
    exact sn_sub rfl (hk4 x2 (x3 + 1))
  refine sn_iload_n (y := m_X2_powerOfRank) (pc := 20) dX2_powerOfRank_20 rfl ?_
  refine sn_iload_n (y := m_X2_powerOfRank) (pc := 21) dX2_powerOfRank_21 rfl ?_
  refine sn_icmp_ne (y := m_X2_powerOfRank) (pc := 22) (tgt := 27) dX2_powerOfRank_22 (by decide) (fun _ => ?_) (fun _ => ?_)
  · refine sn_iinc (y := m_X2_powerOfRank) (pc := 27) (v := x2 + 1) dX2_powerOfRank_27 rfl (by rfl) rfl ?_
    refine sn_iinc (y := m_X2_powerOfRank) (pc := 30) (v := x3 + 1) dX2_powerOfRank_30 rfl (by rfl) rfl ?_
    refine sn_goto (y := m_X2_powerOfRank) (pc := 33) (tgt := 4) dX2_powerOfRank_33 (by decide) ?_
    exact sn_sub rfl (hk4 (x2 + 1) (x3 + 1))
  refine sn_iload_n (y := m_X2_powerOfRank) (pc := 25) dX2_powerOfRank_25 rfl ?_
  exact sn_ireturn rfl dX2_powerOfRank_26
set_option maxRecDepth 100000 in
theorem s_X2_powerOfRank_l4 {cx : CX} (x0 : (Option Nat)) (x1 : Int32) (x2 : Int32) (x3 : Int32) : Sn cx m_X2_powerOfRank eI 4 [(2, vI x2), (3, vI x3), (0, vA x0), (1, vI x1)] [] (f_X2_powerOfRank_l4 x0 x1 x2 x3) :=
  sn_lq2 (L := fun x2 x3 => [(2, vI x2), (3, vI x3), (0, vA x0), (1, vI x1)]) (fun k hk x2 x3 => s_X2_powerOfRank_b4 x0 x1 hk x2 x3) fuel x2 x3
def f_X2_powerOfRank (p0 : (Option Nat)) (p1 : Int32) : Mo Int32 :=
  f_X2_powerOfRank_l4 p0 p1 (0 : Int32) (1 : Int32)
set_option maxRecDepth 100000 in
theorem s_X2_powerOfRank {cx : CX} (p0 : (Option Nat)) (p1 : Int32) : Sn cx m_X2_powerOfRank eI 0 [(0, vA p0), (1, vI p1)] [] (f_X2_powerOfRank p0 p1) := by
  refine sn_iconst (y := m_X2_powerOfRank) (pc := 0) dX2_powerOfRank_0 kc_iconst_0 ?_
  refine sn_istore_n (y := m_X2_powerOfRank) (pc := 1) dX2_powerOfRank_1 rfl ?_
  refine sn_iconst (y := m_X2_powerOfRank) (pc := 2) dX2_powerOfRank_2 kc_iconst_1 ?_
  refine sn_istore_n (y := m_X2_powerOfRank) (pc := 3) dX2_powerOfRank_3 rfl ?_
  exact sn_sub rfl (s_X2_powerOfRank_l4 p0 p1 (0 : Int32) (1 : Int32))
set_option maxRecDepth 100000 in
theorem c_X2_powerOfRank (g : Gl) (p0 : (Option Nat)) (p1 : Int32) : Cn g m_X2_powerOfRank eI [vA p0, vI p1] (mCk 2 p0 (f_X2_powerOfRank p0 p1)) := cn_of_sn (by decide +kernel) rfl (fun r => ⟨r, rfl⟩) rfl (fun _ _ => sn_ck (s_X2_powerOfRank p0 p1))
/-! X2_oppositePair -/
def f_X2_oppositePair_j19 (x2 : Int32) (s0 : Int32) : Mo Int32 :=
  (if s0 = 0 then mRt (-1 : Int32) else (if ¬ (irem x2 (2 : Int32)) = (1 : Int32) then mRt (-1 : Int32) else mRt (1 : Int32)))
set_option maxRecDepth 100000 in
theorem s_X2_oppositePair_j19 {cx : CX} (x2 : Int32) (s0 : Int32) : Sn cx m_X2_oppositePair eI 19 [(2, vI x2)] [vI s0] (f_X2_oppositePair_j19 x2 s0) := by
  refine sn_istore_n (y := m_X2_oppositePair) (pc := 19) dX2_oppositePair_19 rfl ?_
  refine sn_iload_n (y := m_X2_oppositePair) (pc := 20) dX2_oppositePair_20 rfl ?_
  refine sn_if_eq (y := m_X2_oppositePair) (pc := 21) (tgt := 35) dX2_oppositePair_21 (by decide) (fun _ => ?_) (fun _ => ?_)
  · refine sn_iconst (y := m_X2_oppositePair) (pc := 35) dX2_oppositePair_35 kc_iconst_m1 ?_
    exact sn_ireturn rfl dX2_oppositePair_36
  refine sn_iload_n (y := m_X2_oppositePair) (pc := 24) dX2_oppositePair_24 rfl ?_
  refine sn_iconst (y := m_X2_oppositePair) (pc := 25) dX2_oppositePair_25 kc_iconst_2 ?_
  refine sn_iremC (y := m_X2_oppositePair) (pc := 26) (by decide) dX2_oppositePair_26 ?_
  refine sn_iconst (y := m_X2_oppositePair) (pc := 27) dX2_oppositePair_27 kc_iconst_1 ?_
  refine sn_icmp_ne (y := m_X2_oppositePair) (pc := 28) (tgt := 35) dX2_oppositePair_28 (by decide) (fun _ => ?_) (fun _ => ?_)
  · refine sn_iconst (y := m_X2_oppositePair) (pc := 35) dX2_oppositePair_35 kc_iconst_m1 ?_
    exact sn_ireturn rfl dX2_oppositePair_36
  refine sn_iconst (y := m_X2_oppositePair) (pc := 31) dX2_oppositePair_31 kc_iconst_1 ?_
  refine sn_goto (y := m_X2_oppositePair) (pc := 32) (tgt := 36) dX2_oppositePair_32 (by decide) ?_
  exact sn_ireturn rfl dX2_oppositePair_36
def f_X2_oppositePair (p0 : (Option Nat)) (p1 : Int32) (p2 : Int32) : Mo Int32 :=
  mBd (mGetI 2 3 p0) (fun r1 => mBd (mCk 2 p0 (f_X2_characterAt p0 p1 (r1 - (1 : Int32)))) (fun r2 => (if r2 = 0 then f_X2_oppositePair_j19 p2 (0 : Int32) else f_X2_oppositePair_j19 p2 (1 : Int32))))
set_option maxRecDepth 100000 in
theorem s_X2_oppositePair {cx : CX} (p0 : (Option Nat)) (p1 : Int32) (p2 : Int32) : Sn cx m_X2_oppositePair eI 0 [(0, vA p0), (1, vI p1), (2, vI p2)] [] (f_X2_oppositePair p0 p1 p2) := by
  refine sn_aload_n (y := m_X2_oppositePair) (pc := 0) dX2_oppositePair_0 rfl ?_
  refine sn_iload_n (y := m_X2_oppositePair) (pc := 1) dX2_oppositePair_1 rfl ?_
  refine sn_aload_n (y := m_X2_oppositePair) (pc := 2) dX2_oppositePair_2 rfl ?_
  refine sn_getI (y := m_X2_oppositePair) (pc := 3) ca_2 rfl fk_X2_21 (fun _ _ _ => rfl) dX2_oppositePair_3 (fun r1 => ?_)
  refine sn_iconst (y := m_X2_oppositePair) (pc := 6) dX2_oppositePair_6 kc_iconst_1 ?_
  refine sn_isub (y := m_X2_oppositePair) (pc := 7) dX2_oppositePair_7 ?_
  refine sn_invV (y := m_X2_oppositePair) (pc := 8) ca_2 (av := [vI p1, vI (r1 - (1 : Int32))]) (o := p0) (st := []) dX2_oppositePair_8 lk_X2_61 im_X2_characterAt se_X2_characterAt rfl rfl rfl rfl ⟨by decide, by decide⟩ (c_X2_characterAt cx.1 p0 p1 (r1 - (1 : Int32))) (fun r2 => ?_)
  refine sn_if_eq (y := m_X2_oppositePair) (pc := 11) (tgt := 18) dX2_oppositePair_11 (by decide) (fun _ => ?_) (fun _ => ?_)
  · refine sn_iconst (y := m_X2_oppositePair) (pc := 18) dX2_oppositePair_18 kc_iconst_0 ?_
    exact sn_sub rfl (s_X2_oppositePair_j19 p2 (0 : Int32))
  refine sn_iconst (y := m_X2_oppositePair) (pc := 14) dX2_oppositePair_14 kc_iconst_1 ?_
  refine sn_goto (y := m_X2_oppositePair) (pc := 15) (tgt := 19) dX2_oppositePair_15 (by decide) ?_
  exact sn_sub rfl (s_X2_oppositePair_j19 p2 (1 : Int32))
set_option maxRecDepth 100000 in
theorem c_X2_oppositePair (g : Gl) (p0 : (Option Nat)) (p1 : Int32) (p2 : Int32) : Cn g m_X2_oppositePair eI [vA p0, vI p1, vI p2] (mCk 2 p0 (f_X2_oppositePair p0 p1 p2)) := cn_of_sn (by decide +kernel) rfl (fun r => ⟨r, rfl⟩) rfl (fun _ _ => sn_ck (s_X2_oppositePair p0 p1 p2))
/-! X5_multiply -/
def f_X5_multiply_b24 (k14 : Int32 → Mo Unit) (x0 : (Option Nat)) (x1 : (Option Nat)) (x2 : (Option Nat)) (x3 : (Option Nat)) (x4 : Int32) (x5 : Int32) (x6 : Int32) (k24 : Int32 → Mo Unit) (x7 : Int32) : Mo Unit :=
  (if x7 ≥ x5 then k14 (x6 + 1) else mBd (f_X6_at x1 x6) (fun r2 => mBd (f_X6_at x2 x7) (fun r3 => mBd (mCk 5 x0 (f_X5_collect x0 (x6 + x7) (r2 * r3) x4)) (fun _ => k24 (x7 + 1)))))
def f_X5_multiply_l24 (k14 : Int32 → Mo Unit) (x0 : (Option Nat)) (x1 : (Option Nat)) (x2 : (Option Nat)) (x3 : (Option Nat)) (x4 : Int32) (x5 : Int32) (x6 : Int32) : Int32 → Mo Unit := lq1 (f_X5_multiply_b24 k14 x0 x1 x2 x3 x4 x5 x6) fuel
set_option maxRecDepth 100000 in
theorem s_X5_multiply_b24 {cx : CX} {k14 : Int32 → Mo Unit} (x0 : (Option Nat)) (x1 : (Option Nat)) (x2 : (Option Nat)) (x3 : (Option Nat)) (x4 : Int32) (x5 : Int32) (x6 : Int32) (hk14 : ∀ (z6 : Int32), Sn cx m_X5_multiply eV 14 [(6, vI z6), (0, vA x0), (1, vA x1), (2, vA x2), (3, vA x3), (4, vI x4), (5, vI x5)] [] (k14 z6)) {k24 : Int32 → Mo Unit} (hk24 : ∀ (z7 : Int32), Sn cx m_X5_multiply eV 24 [(7, vI z7), (0, vA x0), (1, vA x1), (2, vA x2), (3, vA x3), (4, vI x4), (5, vI x5), (6, vI x6)] [] (k24 z7)) (x7 : Int32) : Sn cx m_X5_multiply eV 24 [(7, vI x7), (0, vA x0), (1, vA x1), (2, vA x2), (3, vA x3), (4, vI x4), (5, vI x5), (6, vI x6)] [] (f_X5_multiply_b24 k14 x0 x1 x2 x3 x4 x5 x6 k24 x7) := by
  refine sn_iload (y := m_X5_multiply) (pc := 24) dX5_multiply_24 rfl ?_
  refine sn_iload (y := m_X5_multiply) (pc := 26) dX5_multiply_26 rfl ?_
  refine sn_icmp_ge (y := m_X5_multiply) (pc := 28) (tgt := 61) dX5_multiply_28 (by decide) (fun _ => ?_) (fun _ => ?_)
  · refine sn_iinc (y := m_X5_multiply) (pc := 61) (v := x6 + 1) dX5_multiply_61 rfl (by rfl) rfl ?_
    refine sn_goto (y := m_X5_multiply) (pc := 64) (tgt := 14) dX5_multiply_64 (by decide) ?_
    exact sn_sub rfl (hk14 (x6 + 1))
  refine sn_aload_n (y := m_X5_multiply) (pc := 31) dX5_multiply_31 rfl ?_
  refine sn_iload (y := m_X5_multiply) (pc := 32) dX5_multiply_32 rfl ?_
  refine sn_iload (y := m_X5_multiply) (pc := 34) dX5_multiply_34 rfl ?_
  refine sn_iadd (y := m_X5_multiply) (pc := 36) dX5_multiply_36 ?_
  refine sn_aload_n (y := m_X5_multiply) (pc := 37) dX5_multiply_37 rfl ?_
  refine sn_iload (y := m_X5_multiply) (pc := 38) dX5_multiply_38 rfl ?_
  refine sn_invS (y := m_X5_multiply) (pc := 40) (av := [vA x1, vI x6]) (st := [vI (x6 + x7), vA x0]) dX5_multiply_40 lk_X5_35 sw_X6_at rfl rfl rfl ⟨by decide, by decide⟩ (c_X6_at cx.1 x1 x6) (fun r2 => ?_)
  refine sn_aload_n (y := m_X5_multiply) (pc := 43) dX5_multiply_43 rfl ?_
  refine sn_iload (y := m_X5_multiply) (pc := 44) dX5_multiply_44 rfl ?_
  refine sn_invS (y := m_X5_multiply) (pc := 46) (av := [vA x2, vI x7]) (st := [vJ r2, vI (x6 + x7), vA x0]) dX5_multiply_46 lk_X5_35 sw_X6_at rfl rfl rfl ⟨by decide, by decide⟩ (c_X6_at cx.1 x2 x7) (fun r3 => ?_)
  refine sn_lmul (y := m_X5_multiply) (pc := 49) dX5_multiply_49 ?_
  refine sn_iload (y := m_X5_multiply) (pc := 50) dX5_multiply_50 rfl ?_
  refine sn_invV (y := m_X5_multiply) (pc := 52) ca_5 (av := [vI (x6 + x7), vJ (r2 * r3), vI x4]) (o := x0) (st := []) dX5_multiply_52 lk_X5_57 im_X5_collect se_X5_collect rfl rfl rfl rfl ⟨by decide, by decide⟩ (c_X5_collect cx.1 x0 (x6 + x7) (r2 * r3) x4) (fun _ => ?_)
  refine sn_iinc (y := m_X5_multiply) (pc := 55) (v := x7 + 1) dX5_multiply_55 rfl (by rfl) rfl ?_
  refine sn_goto (y := m_X5_multiply) (pc := 58) (tgt := 24) dX5_multiply_58 (by decide) ?_
  exact sn_sub rfl (hk24 (x7 + 1))
set_option maxRecDepth 100000 in
theorem s_X5_multiply_l24 {cx : CX} {k14 : Int32 → Mo Unit} (x0 : (Option Nat)) (x1 : (Option Nat)) (x2 : (Option Nat)) (x3 : (Option Nat)) (x4 : Int32) (x5 : Int32) (x6 : Int32) (hk14 : ∀ (z6 : Int32), Sn cx m_X5_multiply eV 14 [(6, vI z6), (0, vA x0), (1, vA x1), (2, vA x2), (3, vA x3), (4, vI x4), (5, vI x5)] [] (k14 z6)) (x7 : Int32) : Sn cx m_X5_multiply eV 24 [(7, vI x7), (0, vA x0), (1, vA x1), (2, vA x2), (3, vA x3), (4, vI x4), (5, vI x5), (6, vI x6)] [] (f_X5_multiply_l24 k14 x0 x1 x2 x3 x4 x5 x6 x7) :=
  sn_lq1 (L := fun x7 => [(7, vI x7), (0, vA x0), (1, vA x1), (2, vA x2), (3, vA x3), (4, vI x4), (5, vI x5), (6, vI x6)]) (fun k hk x7 => s_X5_multiply_b24 x0 x1 x2 x3 x4 x5 x6 hk14 hk x7) fuel x7
def f_X5_multiply_b14 (x0 : (Option Nat)) (x1 : (Option Nat)) (x2 : (Option Nat)) (x3 : (Option Nat)) (x4 : Int32) (x5 : Int32) (k14 : Int32 → Mo Unit) (x6 : Int32) : Mo Unit :=
  (if x6 ≥ x5 then mBd (mCk 5 x0 (f_X5_settle x0 x3 x4)) (fun _ => mRt ()) else f_X5_multiply_l24 k14 x0 x1 x2 x3 x4 x5 x6 (0 : Int32))
def f_X5_multiply_l14 (x0 : (Option Nat)) (x1 : (Option Nat)) (x2 : (Option Nat)) (x3 : (Option Nat)) (x4 : Int32) (x5 : Int32) : Int32 → Mo Unit := lq1 (f_X5_multiply_b14 x0 x1 x2 x3 x4 x5) fuel
set_option maxRecDepth 100000 in
theorem s_X5_multiply_b14 {cx : CX} (x0 : (Option Nat)) (x1 : (Option Nat)) (x2 : (Option Nat)) (x3 : (Option Nat)) (x4 : Int32) (x5 : Int32) {k14 : Int32 → Mo Unit} (hk14 : ∀ (z6 : Int32), Sn cx m_X5_multiply eV 14 [(6, vI z6), (0, vA x0), (1, vA x1), (2, vA x2), (3, vA x3), (4, vI x4), (5, vI x5)] [] (k14 z6)) (x6 : Int32) : Sn cx m_X5_multiply eV 14 [(6, vI x6), (0, vA x0), (1, vA x1), (2, vA x2), (3, vA x3), (4, vI x4), (5, vI x5)] [] (f_X5_multiply_b14 x0 x1 x2 x3 x4 x5 k14 x6) := by
  refine sn_iload (y := m_X5_multiply) (pc := 14) dX5_multiply_14 rfl ?_
  refine sn_iload (y := m_X5_multiply) (pc := 16) dX5_multiply_16 rfl ?_
  refine sn_icmp_ge (y := m_X5_multiply) (pc := 18) (tgt := 67) dX5_multiply_18 (by decide) (fun _ => ?_) (fun _ => ?_)
  · refine sn_aload_n (y := m_X5_multiply) (pc := 67) dX5_multiply_67 rfl ?_
    refine sn_aload_n (y := m_X5_multiply) (pc := 68) dX5_multiply_68 rfl ?_
    refine sn_iload (y := m_X5_multiply) (pc := 69) dX5_multiply_69 rfl ?_
    refine sn_invV (y := m_X5_multiply) (pc := 71) ca_5 (av := [vA x3, vI x4]) (o := x0) (st := []) dX5_multiply_71 lk_X5_61 im_X5_settle se_X5_settle rfl rfl rfl rfl ⟨by decide, by decide⟩ (c_X5_settle cx.1 x0 x3 x4) (fun _ => ?_)
    exact sn_return rfl dX5_multiply_74
  refine sn_iconst (y := m_X5_multiply) (pc := 21) dX5_multiply_21 kc_iconst_0 ?_
  refine sn_istore (y := m_X5_multiply) (pc := 22) dX5_multiply_22 rfl ?_
  exact sn_sub rfl (s_X5_multiply_l24 x0 x1 x2 x3 x4 x5 x6 hk14 (0 : Int32))
set_option maxRecDepth 100000 in
theorem s_X5_multiply_l14 {cx : CX} (x0 : (Option Nat)) (x1 : (Option Nat)) (x2 : (Option Nat)) (x3 : (Option Nat)) (x4 : Int32) (x5 : Int32) (x6 : Int32) : Sn cx m_X5_multiply eV 14 [(6, vI x6), (0, vA x0), (1, vA x1), (2, vA x2), (3, vA x3), (4, vI x4), (5, vI x5)] [] (f_X5_multiply_l14 x0 x1 x2 x3 x4 x5 x6) :=
  sn_lq1 (L := fun x6 => [(6, vI x6), (0, vA x0), (1, vA x1), (2, vA x2), (3, vA x3), (4, vI x4), (5, vI x5)]) (fun k hk x6 => s_X5_multiply_b14 x0 x1 x2 x3 x4 x5 hk x6) fuel x6
def f_X5_multiply (p0 : (Option Nat)) (p1 : (Option Nat)) (p2 : (Option Nat)) (p3 : (Option Nat)) (p4 : Int32) : Mo Unit :=
  mBd (f_X5_lengthOf p4) (fun r1 => mBd (mCk 5 p0 (f_X5_clear p0)) (fun _ => f_X5_multiply_l14 p0 p1 p2 p3 p4 r1 (0 : Int32)))
set_option maxRecDepth 100000 in
theorem s_X5_multiply {cx : CX} (p0 : (Option Nat)) (p1 : (Option Nat)) (p2 : (Option Nat)) (p3 : (Option Nat)) (p4 : Int32) : Sn cx m_X5_multiply eV 0 [(0, vA p0), (1, vA p1), (2, vA p2), (3, vA p3), (4, vI p4)] [] (f_X5_multiply p0 p1 p2 p3 p4) := by
  refine sn_iload (y := m_X5_multiply) (pc := 0) dX5_multiply_0 rfl ?_
  refine sn_invS (y := m_X5_multiply) (pc := 2) (av := [vI p4]) (st := []) dX5_multiply_2 lk_X5_31 sw_X5_lengthOf rfl rfl rfl ⟨by decide, by decide⟩ (c_X5_lengthOf cx.1 p4) (fun r1 => ?_)
  refine sn_istore (y := m_X5_multiply) (pc := 5) dX5_multiply_5 rfl ?_
  refine sn_aload_n (y := m_X5_multiply) (pc := 7) dX5_multiply_7 rfl ?_
  refine sn_invV (y := m_X5_multiply) (pc := 8) ca_5 (av := []) (o := p0) (st := []) dX5_multiply_8 lk_X5_54 im_X5_clear se_X5_clear rfl rfl rfl rfl ⟨by decide, by decide⟩ (c_X5_clear cx.1 p0) (fun _ => ?_)
  refine sn_iconst (y := m_X5_multiply) (pc := 11) dX5_multiply_11 kc_iconst_0 ?_
  refine sn_istore (y := m_X5_multiply) (pc := 12) dX5_multiply_12 rfl ?_
  exact sn_sub rfl (s_X5_multiply_l14 p0 p1 p2 p3 p4 r1 (0 : Int32))
set_option maxRecDepth 100000 in
theorem c_X5_multiply (g : Gl) (p0 : (Option Nat)) (p1 : (Option Nat)) (p2 : (Option Nat)) (p3 : (Option Nat)) (p4 : Int32) : Cn g m_X5_multiply eV [vA p0, vA p1, vA p2, vA p3, vI p4] (mCk 5 p0 (f_X5_multiply p0 p1 p2 p3 p4)) := cn_of_sn (by decide +kernel) rfl (fun _ => rfl) rfl (fun _ _ => sn_ck (s_X5_multiply p0 p1 p2 p3 p4))
/-! X2_liftedSum -/
def f_X2_liftedSum_b20 (x0 : (Option Nat)) (x3 : Int32) (x4 : (Option Nat)) (x5 : (Option Nat)) (x6 : (Option Nat)) (k20 : Int32 → Mo Int64) (x7 : Int32) : Mo Int64 :=
  (if x7 ≥ x3 then (if ¬ (irem x3 (2 : Int32)) = 0 then mBd (f_X6_at x6 (0 : Int32)) (fun r1 => mRt r1) else mBd (f_X6_at x6 (0 : Int32)) (fun r2 => mRt (-r2))) else mBd (mGetI 2 4 x0) (fun r3 => mBd (mCk 5 x4 (f_X5_multiply x4 x6 x5 x6 r3)) (fun _ => k20 (x7 + 1))))
def f_X2_liftedSum_l20 (x0 : (Option Nat)) (x3 : Int32) (x4 : (Option Nat)) (x5 : (Option Nat)) (x6 : (Option Nat)) : Int32 → Mo Int64 := lq1 (f_X2_liftedSum_b20 x0 x3 x4 x5 x6) fuel
set_option maxRecDepth 100000 in
theorem s_X2_liftedSum_b20 {cx : CX} (x0 : (Option Nat)) (x3 : Int32) (x4 : (Option Nat)) (x5 : (Option Nat)) (x6 : (Option Nat)) {k20 : Int32 → Mo Int64} (hk20 : ∀ (z7 : Int32), Sn cx m_X2_liftedSum eJ 20 [(7, vI z7), (0, vA x0), (3, vI x3), (4, vA x4), (5, vA x5), (6, vA x6)] [] (k20 z7)) (x7 : Int32) : Sn cx m_X2_liftedSum eJ 20 [(7, vI x7), (0, vA x0), (3, vI x3), (4, vA x4), (5, vA x5), (6, vA x6)] [] (f_X2_liftedSum_b20 x0 x3 x4 x5 x6 k20 x7) := by
  refine sn_iload (y := m_X2_liftedSum) (pc := 20) dX2_liftedSum_20 rfl ?_
  refine sn_iload_n (y := m_X2_liftedSum) (pc := 22) dX2_liftedSum_22 rfl ?_
  refine sn_icmp_ge (y := m_X2_liftedSum) (pc := 23) (tgt := 47) dX2_liftedSum_23 (by decide) (fun _ => ?_) (fun _ => ?_)
  · refine sn_iload_n (y := m_X2_liftedSum) (pc := 47) dX2_liftedSum_47 rfl ?_
    refine sn_iconst (y := m_X2_liftedSum) (pc := 48) dX2_liftedSum_48 kc_iconst_2 ?_
    refine sn_iremC (y := m_X2_liftedSum) (pc := 49) (by decide) dX2_liftedSum_49 ?_
    refine sn_if_ne (y := m_X2_liftedSum) (pc := 50) (tgt := 63) dX2_liftedSum_50 (by decide) (fun _ => ?_) (fun _ => ?_)
    · refine sn_aload (y := m_X2_liftedSum) (pc := 63) dX2_liftedSum_63 rfl ?_
      refine sn_iconst (y := m_X2_liftedSum) (pc := 65) dX2_liftedSum_65 kc_iconst_0 ?_
      refine sn_invS (y := m_X2_liftedSum) (pc := 66) (av := [vA x6, vI (0 : Int32)]) (st := []) dX2_liftedSum_66 lk_X2_76 sw_X6_at rfl rfl rfl ⟨by decide, by decide⟩ (c_X6_at cx.1 x6 (0 : Int32)) (fun r1 => ?_)
      exact sn_lreturn rfl dX2_liftedSum_69
    refine sn_aload (y := m_X2_liftedSum) (pc := 53) dX2_liftedSum_53 rfl ?_
    refine sn_iconst (y := m_X2_liftedSum) (pc := 55) dX2_liftedSum_55 kc_iconst_0 ?_
    refine sn_invS (y := m_X2_liftedSum) (pc := 56) (av := [vA x6, vI (0 : Int32)]) (st := []) dX2_liftedSum_56 lk_X2_76 sw_X6_at rfl rfl rfl ⟨by decide, by decide⟩ (c_X6_at cx.1 x6 (0 : Int32)) (fun r2 => ?_)
    refine sn_lneg (y := m_X2_liftedSum) (pc := 59) dX2_liftedSum_59 ?_
    refine sn_goto (y := m_X2_liftedSum) (pc := 60) (tgt := 69) dX2_liftedSum_60 (by decide) ?_
    exact sn_lreturn rfl dX2_liftedSum_69
  refine sn_aload (y := m_X2_liftedSum) (pc := 26) dX2_liftedSum_26 rfl ?_
  refine sn_aload (y := m_X2_liftedSum) (pc := 28) dX2_liftedSum_28 rfl ?_
  refine sn_aload (y := m_X2_liftedSum) (pc := 30) dX2_liftedSum_30 rfl ?_
  refine sn_aload (y := m_X2_liftedSum) (pc := 32) dX2_liftedSum_32 rfl ?_
  refine sn_aload_n (y := m_X2_liftedSum) (pc := 34) dX2_liftedSum_34 rfl ?_
  refine sn_getI (y := m_X2_liftedSum) (pc := 35) ca_2 rfl fk_X2_25 (fun _ _ _ => rfl) dX2_liftedSum_35 (fun r3 => ?_)
  refine sn_invV (y := m_X2_liftedSum) (pc := 38) ca_5 (av := [vA x6, vA x5, vA x6, vI r3]) (o := x4) (st := []) dX2_liftedSum_38 lk_X2_101 im_X5_multiply se_X5_multiply rfl rfl rfl rfl ⟨by decide, by decide⟩ (c_X5_multiply cx.1 x4 x6 x5 x6 r3) (fun _ => ?_)
  refine sn_iinc (y := m_X2_liftedSum) (pc := 41) (v := x7 + 1) dX2_liftedSum_41 rfl (by rfl) rfl ?_
  refine sn_goto (y := m_X2_liftedSum) (pc := 44) (tgt := 20) dX2_liftedSum_44 (by decide) ?_
  exact sn_sub rfl (hk20 (x7 + 1))
set_option maxRecDepth 100000 in
theorem s_X2_liftedSum_l20 {cx : CX} (x0 : (Option Nat)) (x3 : Int32) (x4 : (Option Nat)) (x5 : (Option Nat)) (x6 : (Option Nat)) (x7 : Int32) : Sn cx m_X2_liftedSum eJ 20 [(7, vI x7), (0, vA x0), (3, vI x3), (4, vA x4), (5, vA x5), (6, vA x6)] [] (f_X2_liftedSum_l20 x0 x3 x4 x5 x6 x7) :=
  sn_lq1 (L := fun x7 => [(7, vI x7), (0, vA x0), (3, vI x3), (4, vA x4), (5, vA x5), (6, vA x6)]) (fun k hk x7 => s_X2_liftedSum_b20 x0 x3 x4 x5 x6 hk x7) fuel x7
def f_X2_liftedSum (p0 : (Option Nat)) (p1 : Int32) (p2 : Int32) (p3 : Int32) (p4 : (Option Nat)) (p5 : (Option Nat)) (p6 : (Option Nat)) : Mo Int64 :=
  mBd (mCk 2 p0 (f_X2_jacobiSum p0 p1 p2 p4 p5)) (fun _ => mBd (f_X6_copy p5 p6) (fun _ => f_X2_liftedSum_l20 p0 p3 p4 p5 p6 (1 : Int32)))
set_option maxRecDepth 100000 in
theorem s_X2_liftedSum {cx : CX} (p0 : (Option Nat)) (p1 : Int32) (p2 : Int32) (p3 : Int32) (p4 : (Option Nat)) (p5 : (Option Nat)) (p6 : (Option Nat)) : Sn cx m_X2_liftedSum eJ 0 [(0, vA p0), (1, vI p1), (2, vI p2), (3, vI p3), (4, vA p4), (5, vA p5), (6, vA p6)] [] (f_X2_liftedSum p0 p1 p2 p3 p4 p5 p6) := by
  refine sn_aload_n (y := m_X2_liftedSum) (pc := 0) dX2_liftedSum_0 rfl ?_
  refine sn_iload_n (y := m_X2_liftedSum) (pc := 1) dX2_liftedSum_1 rfl ?_
  refine sn_iload_n (y := m_X2_liftedSum) (pc := 2) dX2_liftedSum_2 rfl ?_
  refine sn_aload (y := m_X2_liftedSum) (pc := 3) dX2_liftedSum_3 rfl ?_
  refine sn_aload (y := m_X2_liftedSum) (pc := 5) dX2_liftedSum_5 rfl ?_
  refine sn_invV (y := m_X2_liftedSum) (pc := 7) ca_2 (av := [vI p1, vI p2, vA p4, vA p5]) (o := p0) (st := []) dX2_liftedSum_7 lk_X2_93 im_X2_jacobiSum se_X2_jacobiSum rfl rfl rfl rfl ⟨by decide, by decide⟩ (c_X2_jacobiSum cx.1 p0 p1 p2 p4 p5) (fun _ => ?_)
  refine sn_aload (y := m_X2_liftedSum) (pc := 10) dX2_liftedSum_10 rfl ?_
  refine sn_aload (y := m_X2_liftedSum) (pc := 12) dX2_liftedSum_12 rfl ?_
  refine sn_invS (y := m_X2_liftedSum) (pc := 14) (av := [vA p5, vA p6]) (st := []) dX2_liftedSum_14 lk_X2_97 sw_X6_copy rfl rfl rfl ⟨by decide, by decide⟩ (c_X6_copy cx.1 p5 p6) (fun _ => ?_)
  refine sn_iconst (y := m_X2_liftedSum) (pc := 17) dX2_liftedSum_17 kc_iconst_1 ?_
  refine sn_istore (y := m_X2_liftedSum) (pc := 18) dX2_liftedSum_18 rfl ?_
  exact sn_sub rfl (s_X2_liftedSum_l20 p0 p3 p4 p5 p6 (1 : Int32))
set_option maxRecDepth 100000 in
theorem c_X2_liftedSum (g : Gl) (p0 : (Option Nat)) (p1 : Int32) (p2 : Int32) (p3 : Int32) (p4 : (Option Nat)) (p5 : (Option Nat)) (p6 : (Option Nat)) : Cn g m_X2_liftedSum eJ [vA p0, vI p1, vI p2, vI p3, vA p4, vA p5, vA p6] (mCk 2 p0 (f_X2_liftedSum p0 p1 p2 p3 p4 p5 p6)) := cn_of_sn (by decide +kernel) rfl (fun r => ⟨r, rfl⟩) rfl (fun _ _ => sn_ck (s_X2_liftedSum p0 p1 p2 p3 p4 p5 p6))
/-! X2_pointsOfCurve -/
def f_X2_pointsOfCurve_b43 (k31 : Int64 → Int32 → Mo Int64) (x0 : (Option Nat)) (x1 : Int32) (x2 : (Option Nat)) (x3 : (Option Nat)) (x4 : (Option Nat)) (x7 : Int32) (k43 : Int64 → Int32 → Mo Int64) (x5 : Int64) (x8 : Int32) : Mo Int64 :=
  mBd (mGetI 2 4 x0) (fun r2 => (if x8 ≥ r2 then k31 x5 (x7 + 1) else mBd (mGetI 2 4 x0) (fun r3 => (if ¬ (x7 + x8) = r3 then mBd (mCk 2 x0 (f_X2_liftedSum x0 x7 x8 x1 x2 x3 x4)) (fun r4 => mNm (x5 + r4) (fun n5 => k43 n5 (x8 + 1))) else mBd (mCk 2 x0 (f_X2_oppositePair x0 x7 x1)) (fun r6 => mNm (x5 + (r6.toInt64)) (fun n7 => k43 n7 (x8 + 1)))))))
def f_X2_pointsOfCurve_l43 (k31 : Int64 → Int32 → Mo Int64) (x0 : (Option Nat)) (x1 : Int32) (x2 : (Option Nat)) (x3 : (Option Nat)) (x4 : (Option Nat)) (x7 : Int32) : Int64 → Int32 → Mo Int64 := lq2 (f_X2_pointsOfCurve_b43 k31 x0 x1 x2 x3 x4 x7) fuel
set_option maxRecDepth 100000 in
theorem s_X2_pointsOfCurve_b43 {cx : CX} {k31 : Int64 → Int32 → Mo Int64} (x0 : (Option Nat)) (x1 : Int32) (x2 : (Option Nat)) (x3 : (Option Nat)) (x4 : (Option Nat)) (x7 : Int32) (hk31 : ∀ (z5 : Int64) (z7 : Int32), Sn cx m_X2_pointsOfCurve eJ 31 [(5, vJ z5), (7, vI z7), (0, vA x0), (1, vI x1), (2, vA x2), (3, vA x3), (4, vA x4)] [] (k31 z5 z7)) {k43 : Int64 → Int32 → Mo Int64} (hk43 : ∀ (z5 : Int64) (z8 : Int32), Sn cx m_X2_pointsOfCurve eJ 43 [(5, vJ z5), (8, vI z8), (0, vA x0), (1, vI x1), (2, vA x2), (3, vA x3), (4, vA x4), (7, vI x7)] [] (k43 z5 z8)) (x5 : Int64) (x8 : Int32) : Sn cx m_X2_pointsOfCurve eJ 43 [(5, vJ x5), (8, vI x8), (0, vA x0), (1, vI x1), (2, vA x2), (3, vA x3), (4, vA x4), (7, vI x7)] [] (f_X2_pointsOfCurve_b43 k31 x0 x1 x2 x3 x4 x7 k43 x5 x8) := by
  refine sn_iload (y := m_X2_pointsOfCurve) (pc := 43) dX2_pointsOfCurve_43 rfl ?_
  refine sn_aload_n (y := m_X2_pointsOfCurve) (pc := 45) dX2_pointsOfCurve_45 rfl ?_
  refine sn_getI (y := m_X2_pointsOfCurve) (pc := 46) ca_2 rfl fk_X2_25 (fun _ _ _ => rfl) dX2_pointsOfCurve_46 (fun r2 => ?_)
  refine sn_icmp_ge (y := m_X2_pointsOfCurve) (pc := 49) (tgt := 99) dX2_pointsOfCurve_49 (by decide) (fun _ => ?_) (fun _ => ?_)
  · refine sn_iinc (y := m_X2_pointsOfCurve) (pc := 99) (v := x7 + 1) dX2_pointsOfCurve_99 rfl (by rfl) rfl ?_
    refine sn_goto (y := m_X2_pointsOfCurve) (pc := 102) (tgt := 31) dX2_pointsOfCurve_102 (by decide) ?_
    exact sn_sub rfl (hk31 x5 (x7 + 1))
  refine sn_lload (y := m_X2_pointsOfCurve) (pc := 52) dX2_pointsOfCurve_52 rfl ?_
  refine sn_iload (y := m_X2_pointsOfCurve) (pc := 54) dX2_pointsOfCurve_54 rfl ?_
  refine sn_iload (y := m_X2_pointsOfCurve) (pc := 56) dX2_pointsOfCurve_56 rfl ?_
  refine sn_iadd (y := m_X2_pointsOfCurve) (pc := 58) dX2_pointsOfCurve_58 ?_
  refine sn_aload_n (y := m_X2_pointsOfCurve) (pc := 59) dX2_pointsOfCurve_59 rfl ?_
  refine sn_getI (y := m_X2_pointsOfCurve) (pc := 60) ca_2 rfl fk_X2_25 (fun _ _ _ => rfl) dX2_pointsOfCurve_60 (fun r3 => ?_)
  refine sn_icmp_ne (y := m_X2_pointsOfCurve) (pc := 63) (tgt := 77) dX2_pointsOfCurve_63 (by decide) (fun _ => ?_) (fun _ => ?_)
  · refine sn_aload_n (y := m_X2_pointsOfCurve) (pc := 77) dX2_pointsOfCurve_77 rfl ?_
    refine sn_iload (y := m_X2_pointsOfCurve) (pc := 78) dX2_pointsOfCurve_78 rfl ?_
    refine sn_iload (y := m_X2_pointsOfCurve) (pc := 80) dX2_pointsOfCurve_80 rfl ?_
    refine sn_iload_n (y := m_X2_pointsOfCurve) (pc := 82) dX2_pointsOfCurve_82 rfl ?_
    refine sn_aload_n (y := m_X2_pointsOfCurve) (pc := 83) dX2_pointsOfCurve_83 rfl ?_
    refine sn_aload_n (y := m_X2_pointsOfCurve) (pc := 84) dX2_pointsOfCurve_84 rfl ?_
    refine sn_aload (y := m_X2_pointsOfCurve) (pc := 85) dX2_pointsOfCurve_85 rfl ?_
    refine sn_invV (y := m_X2_pointsOfCurve) (pc := 87) ca_2 (av := [vI x7, vI x8, vI x1, vA x2, vA x3, vA x4]) (o := x0) (st := [vJ x5]) dX2_pointsOfCurve_87 lk_X2_89 im_X2_liftedSum se_X2_liftedSum rfl rfl rfl rfl ⟨by decide, by decide⟩ (c_X2_liftedSum cx.1 x0 x7 x8 x1 x2 x3 x4) (fun r4 => ?_)
    refine sn_ladd (y := m_X2_pointsOfCurve) (pc := 90) dX2_pointsOfCurve_90 ?_
    refine sn_lstoreM (y := m_X2_pointsOfCurve) (pc := 91) dX2_pointsOfCurve_91 rfl (fun n5 => ?_)
    refine sn_iinc (y := m_X2_pointsOfCurve) (pc := 93) (v := x8 + 1) dX2_pointsOfCurve_93 rfl (by rfl) rfl ?_
    refine sn_goto (y := m_X2_pointsOfCurve) (pc := 96) (tgt := 43) dX2_pointsOfCurve_96 (by decide) ?_
    exact sn_sub rfl (hk43 n5 (x8 + 1))
  refine sn_aload_n (y := m_X2_pointsOfCurve) (pc := 66) dX2_pointsOfCurve_66 rfl ?_
  refine sn_iload (y := m_X2_pointsOfCurve) (pc := 67) dX2_pointsOfCurve_67 rfl ?_
  refine sn_iload_n (y := m_X2_pointsOfCurve) (pc := 69) dX2_pointsOfCurve_69 rfl ?_
  refine sn_invV (y := m_X2_pointsOfCurve) (pc := 70) ca_2 (av := [vI x7, vI x1]) (o := x0) (st := [vJ x5]) dX2_pointsOfCurve_70 lk_X2_86 im_X2_oppositePair se_X2_oppositePair rfl rfl rfl rfl ⟨by decide, by decide⟩ (c_X2_oppositePair cx.1 x0 x7 x1) (fun r6 => ?_)
  refine sn_i2l (y := m_X2_pointsOfCurve) (pc := 73) dX2_pointsOfCurve_73 ?_
  refine sn_goto (y := m_X2_pointsOfCurve) (pc := 74) (tgt := 90) dX2_pointsOfCurve_74 (by decide) ?_
  refine sn_ladd (y := m_X2_pointsOfCurve) (pc := 90) dX2_pointsOfCurve_90 ?_
  refine sn_lstoreM (y := m_X2_pointsOfCurve) (pc := 91) dX2_pointsOfCurve_91 rfl (fun n7 => ?_)
  refine sn_iinc (y := m_X2_pointsOfCurve) (pc := 93) (v := x8 + 1) dX2_pointsOfCurve_93 rfl (by rfl) rfl ?_
  refine sn_goto (y := m_X2_pointsOfCurve) (pc := 96) (tgt := 43) dX2_pointsOfCurve_96 (by decide) ?_
  exact sn_sub rfl (hk43 n7 (x8 + 1))
set_option maxRecDepth 100000 in
theorem s_X2_pointsOfCurve_l43 {cx : CX} {k31 : Int64 → Int32 → Mo Int64} (x0 : (Option Nat)) (x1 : Int32) (x2 : (Option Nat)) (x3 : (Option Nat)) (x4 : (Option Nat)) (x7 : Int32) (hk31 : ∀ (z5 : Int64) (z7 : Int32), Sn cx m_X2_pointsOfCurve eJ 31 [(5, vJ z5), (7, vI z7), (0, vA x0), (1, vI x1), (2, vA x2), (3, vA x3), (4, vA x4)] [] (k31 z5 z7)) (x5 : Int64) (x8 : Int32) : Sn cx m_X2_pointsOfCurve eJ 43 [(5, vJ x5), (8, vI x8), (0, vA x0), (1, vI x1), (2, vA x2), (3, vA x3), (4, vA x4), (7, vI x7)] [] (f_X2_pointsOfCurve_l43 k31 x0 x1 x2 x3 x4 x7 x5 x8) :=
  sn_lq2 (L := fun x5 x8 => [(5, vJ x5), (8, vI x8), (0, vA x0), (1, vI x1), (2, vA x2), (3, vA x3), (4, vA x4), (7, vI x7)]) (fun k hk x5 x8 => s_X2_pointsOfCurve_b43 x0 x1 x2 x3 x4 x7 hk31 hk x5 x8) fuel x5 x8
def f_X2_pointsOfCurve_b31 (x0 : (Option Nat)) (x1 : Int32) (x2 : (Option Nat)) (x3 : (Option Nat)) (x4 : (Option Nat)) (k31 : Int64 → Int32 → Mo Int64) (x5 : Int64) (x7 : Int32) : Mo Int64 :=
  mBd (mGetI 2 4 x0) (fun r1 => (if x7 ≥ r1 then mRt x5 else f_X2_pointsOfCurve_l43 k31 x0 x1 x2 x3 x4 x7 x5 (1 : Int32)))
def f_X2_pointsOfCurve_l31 (x0 : (Option Nat)) (x1 : Int32) (x2 : (Option Nat)) (x3 : (Option Nat)) (x4 : (Option Nat)) : Int64 → Int32 → Mo Int64 := lq2 (f_X2_pointsOfCurve_b31 x0 x1 x2 x3 x4) fuel
set_option maxRecDepth 100000 in
theorem s_X2_pointsOfCurve_b31 {cx : CX} (x0 : (Option Nat)) (x1 : Int32) (x2 : (Option Nat)) (x3 : (Option Nat)) (x4 : (Option Nat)) {k31 : Int64 → Int32 → Mo Int64} (hk31 : ∀ (z5 : Int64) (z7 : Int32), Sn cx m_X2_pointsOfCurve eJ 31 [(5, vJ z5), (7, vI z7), (0, vA x0), (1, vI x1), (2, vA x2), (3, vA x3), (4, vA x4)] [] (k31 z5 z7)) (x5 : Int64) (x7 : Int32) : Sn cx m_X2_pointsOfCurve eJ 31 [(5, vJ x5), (7, vI x7), (0, vA x0), (1, vI x1), (2, vA x2), (3, vA x3), (4, vA x4)] [] (f_X2_pointsOfCurve_b31 x0 x1 x2 x3 x4 k31 x5 x7) := by
  refine sn_iload (y := m_X2_pointsOfCurve) (pc := 31) dX2_pointsOfCurve_31 rfl ?_
  refine sn_aload_n (y := m_X2_pointsOfCurve) (pc := 33) dX2_pointsOfCurve_33 rfl ?_
  refine sn_getI (y := m_X2_pointsOfCurve) (pc := 34) ca_2 rfl fk_X2_25 (fun _ _ _ => rfl) dX2_pointsOfCurve_34 (fun r1 => ?_)
  refine sn_icmp_ge (y := m_X2_pointsOfCurve) (pc := 37) (tgt := 105) dX2_pointsOfCurve_37 (by decide) (fun _ => ?_) (fun _ => ?_)
  · refine sn_lload (y := m_X2_pointsOfCurve) (pc := 105) dX2_pointsOfCurve_105 rfl ?_
    exact sn_lreturn rfl dX2_pointsOfCurve_107
  refine sn_iconst (y := m_X2_pointsOfCurve) (pc := 40) dX2_pointsOfCurve_40 kc_iconst_1 ?_
  refine sn_istore (y := m_X2_pointsOfCurve) (pc := 41) dX2_pointsOfCurve_41 rfl ?_
  exact sn_sub rfl (s_X2_pointsOfCurve_l43 x0 x1 x2 x3 x4 x7 hk31 x5 (1 : Int32))
set_option maxRecDepth 100000 in
theorem s_X2_pointsOfCurve_l31 {cx : CX} (x0 : (Option Nat)) (x1 : Int32) (x2 : (Option Nat)) (x3 : (Option Nat)) (x4 : (Option Nat)) (x5 : Int64) (x7 : Int32) : Sn cx m_X2_pointsOfCurve eJ 31 [(5, vJ x5), (7, vI x7), (0, vA x0), (1, vI x1), (2, vA x2), (3, vA x3), (4, vA x4)] [] (f_X2_pointsOfCurve_l31 x0 x1 x2 x3 x4 x5 x7) :=
  sn_lq2 (L := fun x5 x7 => [(5, vJ x5), (7, vI x7), (0, vA x0), (1, vI x1), (2, vA x2), (3, vA x3), (4, vA x4)]) (fun k hk x5 x7 => s_X2_pointsOfCurve_b31 x0 x1 x2 x3 x4 hk x5 x7) fuel x5 x7
def f_X2_pointsOfCurve_b6 (x0 : (Option Nat)) (x1 : Int32) (x2 : (Option Nat)) (x3 : (Option Nat)) (x4 : (Option Nat)) (k6 : Int64 → Int32 → Mo Int64) (x5 : Int64) (x7 : Int32) : Mo Int64 :=
  (if x7 ≥ x1 then f_X2_pointsOfCurve_l31 x0 x1 x2 x3 x4 x5 (1 : Int32) else mBd (mGetI 2 3 x0) (fun r8 => mNm (x5 * (r8.toInt64)) (fun n9 => k6 n9 (x7 + 1))))
def f_X2_pointsOfCurve_l6 (x0 : (Option Nat)) (x1 : Int32) (x2 : (Option Nat)) (x3 : (Option Nat)) (x4 : (Option Nat)) : Int64 → Int32 → Mo Int64 := lq2 (f_X2_pointsOfCurve_b6 x0 x1 x2 x3 x4) fuel
set_option maxRecDepth 100000 in
theorem s_X2_pointsOfCurve_b6 {cx : CX} (x0 : (Option Nat)) (x1 : Int32) (x2 : (Option Nat)) (x3 : (Option Nat)) (x4 : (Option Nat)) {k6 : Int64 → Int32 → Mo Int64} (hk6 : ∀ (z5 : Int64) (z7 : Int32), Sn cx m_X2_pointsOfCurve eJ 6 [(5, vJ z5), (7, vI z7), (0, vA x0), (1, vI x1), (2, vA x2), (3, vA x3), (4, vA x4)] [] (k6 z5 z7)) (x5 : Int64) (x7 : Int32) : Sn cx m_X2_pointsOfCurve eJ 6 [(5, vJ x5), (7, vI x7), (0, vA x0), (1, vI x1), (2, vA x2), (3, vA x3), (4, vA x4)] [] (f_X2_pointsOfCurve_b6 x0 x1 x2 x3 x4 k6 x5 x7) := by
  refine sn_iload (y := m_X2_pointsOfCurve) (pc := 6) dX2_pointsOfCurve_6 rfl ?_
  refine sn_iload_n (y := m_X2_pointsOfCurve) (pc := 8) dX2_pointsOfCurve_8 rfl ?_
  refine sn_icmp_ge (y := m_X2_pointsOfCurve) (pc := 9) (tgt := 28) dX2_pointsOfCurve_9 (by decide) (fun _ => ?_) (fun _ => ?_)
  · refine sn_iconst (y := m_X2_pointsOfCurve) (pc := 28) dX2_pointsOfCurve_28 kc_iconst_1 ?_
    refine sn_istore (y := m_X2_pointsOfCurve) (pc := 29) dX2_pointsOfCurve_29 rfl ?_
    exact sn_sub rfl (s_X2_pointsOfCurve_l31 x0 x1 x2 x3 x4 x5 (1 : Int32))
  refine sn_lload (y := m_X2_pointsOfCurve) (pc := 12) dX2_pointsOfCurve_12 rfl ?_
  refine sn_aload_n (y := m_X2_pointsOfCurve) (pc := 14) dX2_pointsOfCurve_14 rfl ?_
  refine sn_getI (y := m_X2_pointsOfCurve) (pc := 15) ca_2 rfl fk_X2_21 (fun _ _ _ => rfl) dX2_pointsOfCurve_15 (fun r8 => ?_)
  refine sn_i2l (y := m_X2_pointsOfCurve) (pc := 18) dX2_pointsOfCurve_18 ?_
  refine sn_lmul (y := m_X2_pointsOfCurve) (pc := 19) dX2_pointsOfCurve_19 ?_
  refine sn_lstoreM (y := m_X2_pointsOfCurve) (pc := 20) dX2_pointsOfCurve_20 rfl (fun n9 => ?_)
  refine sn_iinc (y := m_X2_pointsOfCurve) (pc := 22) (v := x7 + 1) dX2_pointsOfCurve_22 rfl (by rfl) rfl ?_
  refine sn_goto (y := m_X2_pointsOfCurve) (pc := 25) (tgt := 6) dX2_pointsOfCurve_25 (by decide) ?_
  exact sn_sub rfl (hk6 n9 (x7 + 1))
set_option maxRecDepth 100000 in
theorem s_X2_pointsOfCurve_l6 {cx : CX} (x0 : (Option Nat)) (x1 : Int32) (x2 : (Option Nat)) (x3 : (Option Nat)) (x4 : (Option Nat)) (x5 : Int64) (x7 : Int32) : Sn cx m_X2_pointsOfCurve eJ 6 [(5, vJ x5), (7, vI x7), (0, vA x0), (1, vI x1), (2, vA x2), (3, vA x3), (4, vA x4)] [] (f_X2_pointsOfCurve_l6 x0 x1 x2 x3 x4 x5 x7) :=
  sn_lq2 (L := fun x5 x7 => [(5, vJ x5), (7, vI x7), (0, vA x0), (1, vI x1), (2, vA x2), (3, vA x3), (4, vA x4)]) (fun k hk x5 x7 => s_X2_pointsOfCurve_b6 x0 x1 x2 x3 x4 hk x5 x7) fuel x5 x7
def f_X2_pointsOfCurve (p0 : (Option Nat)) (p1 : Int32) (p2 : (Option Nat)) (p3 : (Option Nat)) (p4 : (Option Nat)) : Mo Int64 :=
  f_X2_pointsOfCurve_l6 p0 p1 p2 p3 p4 (1 : Int64) (0 : Int32)
set_option maxRecDepth 100000 in
theorem s_X2_pointsOfCurve {cx : CX} (p0 : (Option Nat)) (p1 : Int32) (p2 : (Option Nat)) (p3 : (Option Nat)) (p4 : (Option Nat)) : Sn cx m_X2_pointsOfCurve eJ 0 [(0, vA p0), (1, vI p1), (2, vA p2), (3, vA p3), (4, vA p4)] [] (f_X2_pointsOfCurve p0 p1 p2 p3 p4) := by
  refine sn_lconst (y := m_X2_pointsOfCurve) (pc := 0) dX2_pointsOfCurve_0 kc_lconst_1 ?_
  refine sn_lstore (y := m_X2_pointsOfCurve) (pc := 1) dX2_pointsOfCurve_1 rfl ?_
  refine sn_iconst (y := m_X2_pointsOfCurve) (pc := 3) dX2_pointsOfCurve_3 kc_iconst_0 ?_
  refine sn_istore (y := m_X2_pointsOfCurve) (pc := 4) dX2_pointsOfCurve_4 rfl ?_
  exact sn_sub rfl (s_X2_pointsOfCurve_l6 p0 p1 p2 p3 p4 (1 : Int64) (0 : Int32))
set_option maxRecDepth 100000 in
theorem c_X2_pointsOfCurve (g : Gl) (p0 : (Option Nat)) (p1 : Int32) (p2 : (Option Nat)) (p3 : (Option Nat)) (p4 : (Option Nat)) : Cn g m_X2_pointsOfCurve eJ [vA p0, vI p1, vA p2, vA p3, vA p4] (mCk 2 p0 (f_X2_pointsOfCurve p0 p1 p2 p3 p4)) := cn_of_sn (by decide +kernel) rfl (fun r => ⟨r, rfl⟩) rfl (fun _ _ => sn_ck (s_X2_pointsOfCurve p0 p1 p2 p3 p4))
/-! J0_coder_7d493 -/
def f_J0_coder_7d493 (p0 : (Option Nat)) : Mo Int32 :=
  (if (1 : Int32) = 0 then mRq ((1 : Int32) = 0 ∨ (1 : Int32) = 1) (mRt (1 : Int32)) else mBd (mStrCod p0) (fun r1 => mRq (r1 = 0 ∨ r1 = 1) (mRt r1)))
set_option maxRecDepth 100000 in
theorem s_J0_coder_7d493 {cx : CX} (p0 : (Option Nat)) : Sn cx m_J0_coder_7d493 eI 0 [(0, vA p0)] [] (f_J0_coder_7d493 p0) := by
  refine sn_compact (y := m_J0_coder_7d493) (pc := 0) gs_J0_38 dJ0_coder_7d493_0 ?_
  refine sn_if_eq (y := m_J0_coder_7d493) (pc := 3) (tgt := 13) dJ0_coder_7d493_3 (by decide) (fun _ => ?_) (fun _ => ?_)
  · refine sn_iconst (y := m_J0_coder_7d493) (pc := 13) dJ0_coder_7d493_13 kc_iconst_1 ?_
    exact sn_breturn rfl dJ0_coder_7d493_14
  refine sn_aload_n (y := m_J0_coder_7d493) (pc := 6) dJ0_coder_7d493_6 rfl ?_
  refine sn_strCod (y := m_J0_coder_7d493) (pc := 7) fs_J0_15 dJ0_coder_7d493_7 (fun r1 => ?_)
  refine sn_goto (y := m_J0_coder_7d493) (pc := 10) (tgt := 14) dJ0_coder_7d493_10 (by decide) ?_
  exact sn_breturn rfl dJ0_coder_7d493_14
set_option maxRecDepth 100000 in
theorem c_J0_coder_7d493 (g : Gl) (p0 : (Option Nat)) : Cn g m_J0_coder_7d493 eI [vA p0] (mCkS p0 (f_J0_coder_7d493 p0)) := cn_of_sn (by decide +kernel) rfl (fun r => ⟨r, rfl⟩) rfl (fun _ _ => sn_ckS (s_J0_coder_7d493 p0))
/-! J0_length_8abf5 -/
def f_J0_length_8abf5 (p0 : (Option Nat)) : Mo Int32 :=
  mBd (mStrVal p0) (fun r1 => mBd (mLenS r1) (fun r2 => mBd (mCkS p0 (f_J0_coder_7d493 p0)) (fun r3 => mRt (r2 >>> (r3 &&& 31)))))
set_option maxRecDepth 100000 in
theorem s_J0_length_8abf5 {cx : CX} (p0 : (Option Nat)) : Sn cx m_J0_length_8abf5 eI 0 [(0, vA p0)] [] (f_J0_length_8abf5 p0) := by
  refine sn_aload_n (y := m_J0_length_8abf5) (pc := 0) dJ0_length_8abf5_0 rfl ?_
  refine sn_strVal (y := m_J0_length_8abf5) (pc := 1) fs_J0_9 dJ0_length_8abf5_1 (fun r1 => ?_)
  refine sn_alenS (y := m_J0_length_8abf5) (pc := 4) dJ0_length_8abf5_4 (fun r2 => ?_)
  refine sn_aload_n (y := m_J0_length_8abf5) (pc := 5) dJ0_length_8abf5_5 rfl ?_
  refine sn_invStr (y := m_J0_length_8abf5) (pc := 6) (av := []) (o := p0) (st := [vI r2]) dJ0_length_8abf5_6 lk_J0_335 im_J0_coder_7d493 se_J0_coder_7d493 rfl rfl rfl rfl ⟨by decide, by decide⟩ (c_J0_coder_7d493 cx.1 p0) (fun r3 => ?_)
  refine sn_ishr (y := m_J0_length_8abf5) (pc := 9) dJ0_length_8abf5_9 ?_
  exact sn_ireturn rfl dJ0_length_8abf5_10
set_option maxRecDepth 100000 in
theorem c_J0_length_8abf5 (g : Gl) (p0 : (Option Nat)) : Cn g m_J0_length_8abf5 eI [vA p0] (mCkS p0 (f_J0_length_8abf5 p0)) := cn_of_sn (by decide +kernel) rfl (fun r => ⟨r, rfl⟩) rfl (fun _ _ => sn_ckS (s_J0_length_8abf5 p0))
/-! J0_isLatin1_aae02 -/
def f_J0_isLatin1_aae02 (p0 : (Option Nat)) : Mo Int32 :=
  (if (1 : Int32) = 0 then mRt (0 : Int32) else mBd (mStrCod p0) (fun r1 => (if ¬ r1 = 0 then mRt (0 : Int32) else mRt (1 : Int32))))
set_option maxRecDepth 100000 in
theorem s_J0_isLatin1_aae02 {cx : CX} (p0 : (Option Nat)) : Sn cx m_J0_isLatin1_aae02 eI 0 [(0, vA p0)] [] (f_J0_isLatin1_aae02 p0) := by
  refine sn_compact (y := m_J0_isLatin1_aae02) (pc := 0) gs_J0_38 dJ0_isLatin1_aae02_0 ?_
  refine sn_if_eq (y := m_J0_isLatin1_aae02) (pc := 3) (tgt := 17) dJ0_isLatin1_aae02_3 (by decide) (fun _ => ?_) (fun _ => ?_)
  · refine sn_iconst (y := m_J0_isLatin1_aae02) (pc := 17) dJ0_isLatin1_aae02_17 kc_iconst_0 ?_
    exact sn_zreturnC (by decide) rfl dJ0_isLatin1_aae02_18
  refine sn_aload_n (y := m_J0_isLatin1_aae02) (pc := 6) dJ0_isLatin1_aae02_6 rfl ?_
  refine sn_strCod (y := m_J0_isLatin1_aae02) (pc := 7) fs_J0_15 dJ0_isLatin1_aae02_7 (fun r1 => ?_)
  refine sn_if_ne (y := m_J0_isLatin1_aae02) (pc := 10) (tgt := 17) dJ0_isLatin1_aae02_10 (by decide) (fun _ => ?_) (fun _ => ?_)
  · refine sn_iconst (y := m_J0_isLatin1_aae02) (pc := 17) dJ0_isLatin1_aae02_17 kc_iconst_0 ?_
    exact sn_zreturnC (by decide) rfl dJ0_isLatin1_aae02_18
  refine sn_iconst (y := m_J0_isLatin1_aae02) (pc := 13) dJ0_isLatin1_aae02_13 kc_iconst_1 ?_
  refine sn_goto (y := m_J0_isLatin1_aae02) (pc := 14) (tgt := 18) dJ0_isLatin1_aae02_14 (by decide) ?_
  exact sn_zreturnC (by decide) rfl dJ0_isLatin1_aae02_18
set_option maxRecDepth 100000 in
theorem c_J0_isLatin1_aae02 (g : Gl) (p0 : (Option Nat)) : Cn g m_J0_isLatin1_aae02 eI [vA p0] (mCkS p0 (f_J0_isLatin1_aae02 p0)) := cn_of_sn (by decide +kernel) rfl (fun r => ⟨r, rfl⟩) rfl (fun _ _ => sn_ckS (s_J0_isLatin1_aae02 p0))
/-! J3_checkIndex_8e157 -/
def f_J3_checkIndex_8e157 (p0 : Int32) (p1 : Int32) : Mo Int32 :=
  (if p0 < 0 then mBad else (if p0 < p1 then mRt p0 else mBad))
set_option maxRecDepth 100000 in
theorem s_J3_checkIndex_8e157 {cx : CX} (p0 : Int32) (p1 : Int32) (p2 : (Option Nat)) : Sn cx m_J3_checkIndex_8e157 eI 0 [(0, vI p0), (1, vI p1), (2, vA p2)] [] (f_J3_checkIndex_8e157 p0 p1) := by
  refine sn_iload_n (y := m_J3_checkIndex_8e157) (pc := 0) dJ3_checkIndex_8e157_0 rfl ?_
  refine sn_if_lt (y := m_J3_checkIndex_8e157) (pc := 1) (tgt := 9) dJ3_checkIndex_8e157_1 (by decide) (fun _ => ?_) (fun _ => ?_)
  · refine sn_aload_n (y := m_J3_checkIndex_8e157) (pc := 9) dJ3_checkIndex_8e157_9 rfl ?_
    refine sn_iload_n (y := m_J3_checkIndex_8e157) (pc := 10) dJ3_checkIndex_8e157_10 rfl ?_
    refine sn_iload_n (y := m_J3_checkIndex_8e157) (pc := 11) dJ3_checkIndex_8e157_11 rfl ?_
    exact sn_bad
  refine sn_iload_n (y := m_J3_checkIndex_8e157) (pc := 4) dJ3_checkIndex_8e157_4 rfl ?_
  refine sn_iload_n (y := m_J3_checkIndex_8e157) (pc := 5) dJ3_checkIndex_8e157_5 rfl ?_
  refine sn_icmp_lt (y := m_J3_checkIndex_8e157) (pc := 6) (tgt := 16) dJ3_checkIndex_8e157_6 (by decide) (fun _ => ?_) (fun _ => ?_)
  · refine sn_iload_n (y := m_J3_checkIndex_8e157) (pc := 16) dJ3_checkIndex_8e157_16 rfl ?_
    exact sn_ireturn rfl dJ3_checkIndex_8e157_17
  refine sn_aload_n (y := m_J3_checkIndex_8e157) (pc := 9) dJ3_checkIndex_8e157_9 rfl ?_
  refine sn_iload_n (y := m_J3_checkIndex_8e157) (pc := 10) dJ3_checkIndex_8e157_10 rfl ?_
  refine sn_iload_n (y := m_J3_checkIndex_8e157) (pc := 11) dJ3_checkIndex_8e157_11 rfl ?_
  exact sn_bad
set_option maxRecDepth 100000 in
theorem c_J3_checkIndex_8e157 (g : Gl) (p0 : Int32) (p1 : Int32) (p2 : (Option Nat)) : Cn g m_J3_checkIndex_8e157 eI [vI p0, vI p1, vA p2] (f_J3_checkIndex_8e157 p0 p1) := cn_of_sn (by decide +kernel) rfl (fun r => ⟨r, rfl⟩) rfl (fun _ _ => s_J3_checkIndex_8e157 p0 p1 p2)
/-! J0_checkIndex_df160 -/
def f_J0_checkIndex_df160 (p0 : Int32) (p1 : Int32) : Mo Unit :=
  mBd (f_J3_checkIndex_8e157 p0 p1) (fun r1 => mRt ())
set_option maxRecDepth 100000 in
theorem s_J0_checkIndex_df160 {cx : CX} (p0 : Int32) (p1 : Int32) : Sn cx m_J0_checkIndex_df160 eV 0 [(0, vI p0), (1, vI p1)] [] (f_J0_checkIndex_df160 p0 p1) := by
  refine sn_iload_n (y := m_J0_checkIndex_df160) (pc := 0) dJ0_checkIndex_df160_0 rfl ?_
  refine sn_iload_n (y := m_J0_checkIndex_df160) (pc := 1) dJ0_checkIndex_df160_1 rfl ?_
  refine sn_fmt (y := m_J0_checkIndex_df160) (pc := 2) gs_J0_1053 dJ0_checkIndex_df160_2 ?_
  refine sn_invS (y := m_J0_checkIndex_df160) (pc := 5) (av := [vI p0, vI p1, vA ((gF cx.1))]) (st := []) dJ0_checkIndex_df160_5 lk_J0_1059 sw_J3_checkIndex_8e157 rfl rfl rfl ⟨by decide, by decide⟩ (c_J3_checkIndex_8e157 cx.1 p0 p1 ((gF cx.1))) (fun r1 => ?_)
  refine sn_pop (y := m_J0_checkIndex_df160) (pc := 8) rfl dJ0_checkIndex_df160_8 ?_
  exact sn_return rfl dJ0_checkIndex_df160_9
set_option maxRecDepth 100000 in
theorem c_J0_checkIndex_df160 (g : Gl) (p0 : Int32) (p1 : Int32) : Cn g m_J0_checkIndex_df160 eV [vI p0, vI p1] (f_J0_checkIndex_df160 p0 p1) := cn_of_sn (by decide +kernel) rfl (fun _ => rfl) rfl (fun _ _ => s_J0_checkIndex_df160 p0 p1)
/-! J1_charAt_3b067 -/
def f_J1_charAt_3b067 (p0 : (Option Nat)) (p1 : Int32) : Mo Int32 :=
  mBd (mLenS p0) (fun r1 => mBd (f_J0_checkIndex_df160 p1 r1) (fun _ => mBd (mLdS p0 p1) (fun r2 => mRq ((((r2 &&& (255 : Int32)).toUInt32 % 65536).toInt32).toUInt32.toUInt16.toUInt32.toInt32 = (((r2 &&& (255 : Int32)).toUInt32 % 65536).toInt32)) (mRt (((r2 &&& (255 : Int32)).toUInt32 % 65536).toInt32)))))
set_option maxRecDepth 100000 in
theorem s_J1_charAt_3b067 {cx : CX} (p0 : (Option Nat)) (p1 : Int32) : Sn cx m_J1_charAt_3b067 eI 0 [(0, vA p0), (1, vI p1)] [] (f_J1_charAt_3b067 p0 p1) := by
  refine sn_iload_n (y := m_J1_charAt_3b067) (pc := 0) dJ1_charAt_3b067_0 rfl ?_
  refine sn_aload_n (y := m_J1_charAt_3b067) (pc := 1) dJ1_charAt_3b067_1 rfl ?_
  refine sn_alenS (y := m_J1_charAt_3b067) (pc := 2) dJ1_charAt_3b067_2 (fun r1 => ?_)
  refine sn_invS (y := m_J1_charAt_3b067) (pc := 3) (av := [vI p1, vI r1]) (st := []) dJ1_charAt_3b067_3 lk_J1_9 sw_J0_checkIndex_df160 rfl rfl rfl ⟨by decide, by decide⟩ (c_J0_checkIndex_df160 cx.1 p1 r1) (fun _ => ?_)
  refine sn_aload_n (y := m_J1_charAt_3b067) (pc := 6) dJ1_charAt_3b067_6 rfl ?_
  refine sn_iload_n (y := m_J1_charAt_3b067) (pc := 7) dJ1_charAt_3b067_7 rfl ?_
  refine sn_baloadS (y := m_J1_charAt_3b067) (pc := 8) dJ1_charAt_3b067_8 (fun r2 => ?_)
  refine sn_sipush (y := m_J1_charAt_3b067) (pc := 9) dJ1_charAt_3b067_9 kc_sipush_255 ?_
  refine sn_iand (y := m_J1_charAt_3b067) (pc := 12) dJ1_charAt_3b067_12 ?_
  refine sn_i2c (y := m_J1_charAt_3b067) (pc := 13) dJ1_charAt_3b067_13 ?_
  exact sn_creturn rfl dJ1_charAt_3b067_14
set_option maxRecDepth 100000 in
theorem c_J1_charAt_3b067 (g : Gl) (p0 : (Option Nat)) (p1 : Int32) : Cn g m_J1_charAt_3b067 eI [vA p0, vI p1] (f_J1_charAt_3b067 p0 p1) := cn_of_sn (by decide +kernel) rfl (fun r => ⟨r, rfl⟩) rfl (fun _ _ => s_J1_charAt_3b067 p0 p1)
/-! J0_charAt_5068e -/
def f_J0_charAt_5068e (p0 : (Option Nat)) (p1 : Int32) : Mo Int32 :=
  mBd (mCkS p0 (f_J0_isLatin1_aae02 p0)) (fun r1 => (if r1 = 0 then mBd (mStrVal p0) (fun r2 => mBad) else mBd (mStrVal p0) (fun r3 => mBd (f_J1_charAt_3b067 r3 p1) (fun r4 => mRq (r4.toUInt32.toUInt16.toUInt32.toInt32 = r4) (mRt r4)))))
set_option maxRecDepth 100000 in
theorem s_J0_charAt_5068e {cx : CX} (p0 : (Option Nat)) (p1 : Int32) : Sn cx m_J0_charAt_5068e eI 0 [(0, vA p0), (1, vI p1)] [] (f_J0_charAt_5068e p0 p1) := by
  refine sn_aload_n (y := m_J0_charAt_5068e) (pc := 0) dJ0_charAt_5068e_0 rfl ?_
  refine sn_invStr (y := m_J0_charAt_5068e) (pc := 1) (av := []) (o := p0) (st := []) dJ0_charAt_5068e_1 lk_J0_492 im_J0_isLatin1_aae02 se_J0_isLatin1_aae02 rfl rfl rfl rfl ⟨by decide, by decide⟩ (c_J0_isLatin1_aae02 cx.1 p0) (fun r1 => ?_)
  refine sn_if_eq (y := m_J0_charAt_5068e) (pc := 4) (tgt := 16) dJ0_charAt_5068e_4 (by decide) (fun _ => ?_) (fun _ => ?_)
  · refine sn_aload_n (y := m_J0_charAt_5068e) (pc := 16) dJ0_charAt_5068e_16 rfl ?_
    refine sn_strVal (y := m_J0_charAt_5068e) (pc := 17) fs_J0_9 dJ0_charAt_5068e_17 (fun r2 => ?_)
    refine sn_iload_n (y := m_J0_charAt_5068e) (pc := 20) dJ0_charAt_5068e_20 rfl ?_
    exact sn_bad
  refine sn_aload_n (y := m_J0_charAt_5068e) (pc := 7) dJ0_charAt_5068e_7 rfl ?_
  refine sn_strVal (y := m_J0_charAt_5068e) (pc := 8) fs_J0_9 dJ0_charAt_5068e_8 (fun r3 => ?_)
  refine sn_iload_n (y := m_J0_charAt_5068e) (pc := 11) dJ0_charAt_5068e_11 rfl ?_
  refine sn_invS (y := m_J0_charAt_5068e) (pc := 12) (av := [vA r3, vI p1]) (st := []) dJ0_charAt_5068e_12 lk_J0_495 sw_J1_charAt_3b067 rfl rfl rfl ⟨by decide, by decide⟩ (c_J1_charAt_3b067 cx.1 r3 p1) (fun r4 => ?_)
  exact sn_creturn rfl dJ0_charAt_5068e_15
set_option maxRecDepth 100000 in
theorem c_J0_charAt_5068e (g : Gl) (p0 : (Option Nat)) (p1 : Int32) : Cn g m_J0_charAt_5068e eI [vA p0, vI p1] (mCkS p0 (f_J0_charAt_5068e p0 p1)) := cn_of_sn (by decide +kernel) rfl (fun r => ⟨r, rfl⟩) rfl (fun _ _ => sn_ckS (s_J0_charAt_5068e p0 p1))
/-! X9_withLetter -/
def f_X9_withLetter (p0 : Int64) (p2 : Int32) : Mo Int64 :=
  mRt ((p0 * (32 : Int64)) + (((p2 - (97 : Int32)) + (1 : Int32)).toInt64))
set_option maxRecDepth 100000 in
theorem s_X9_withLetter {cx : CX} (p0 : Int64) (p2 : Int32) : Sn cx m_X9_withLetter eJ 0 [(0, vJ p0), (2, vI p2)] [] (f_X9_withLetter p0 p2) := by
  refine sn_lload_n (y := m_X9_withLetter) (pc := 0) dX9_withLetter_0 rfl ?_
  refine sn_ldcJ (y := m_X9_withLetter) (pc := 1) kj_X9_73 dX9_withLetter_1 ?_
  refine sn_lmul (y := m_X9_withLetter) (pc := 4) dX9_withLetter_4 ?_
  refine sn_iload_n (y := m_X9_withLetter) (pc := 5) dX9_withLetter_5 rfl ?_
  refine sn_bipush (y := m_X9_withLetter) (pc := 6) dX9_withLetter_6 kc_bipush_97 ?_
  refine sn_isub (y := m_X9_withLetter) (pc := 8) dX9_withLetter_8 ?_
  refine sn_iconst (y := m_X9_withLetter) (pc := 9) dX9_withLetter_9 kc_iconst_1 ?_
  refine sn_iadd (y := m_X9_withLetter) (pc := 10) dX9_withLetter_10 ?_
  refine sn_i2l (y := m_X9_withLetter) (pc := 11) dX9_withLetter_11 ?_
  refine sn_ladd (y := m_X9_withLetter) (pc := 12) dX9_withLetter_12 ?_
  exact sn_lreturn rfl dX9_withLetter_13
set_option maxRecDepth 100000 in
theorem c_X9_withLetter (g : Gl) (p0 : Int64) (p2 : Int32) : Cn g m_X9_withLetter eJ [vJ p0, vI p2] (f_X9_withLetter p0 p2) := cn_of_sn (by decide +kernel) rfl (fun r => ⟨r, rfl⟩) rfl (fun _ _ => s_X9_withLetter p0 p2)
/-! X9_init -/
def f_X9_init_b82 (x0 : (Option Nat)) (k82 : Int32 → Int32 → Mo Unit) (x1 : Int32) (x2 : Int32) : Mo Unit :=
  mBd (mCkS ((some 3)) (f_J0_length_8abf5 ((some 3)))) (fun r6 => (if x2 ≥ r6 then mRt () else mBd (mCkS ((some 3)) (f_J0_charAt_5068e ((some 3)) x2)) (fun r7 => (if ¬ r7 = (32 : Int32) then mBd (mGetA 7 1 x0) (fun r8 => mBd (mGetA 7 1 x0) (fun r9 => mBd (f_X6_at r9 x1) (fun r10 => mBd (f_X9_withLetter r10 r7) (fun r11 => mBd (f_X6_put r8 x1 r11) (fun _ => k82 x1 (x2 + 1)))))) else k82 (x1 + 1) (x2 + 1)))))
def f_X9_init_l82 (x0 : (Option Nat)) : Int32 → Int32 → Mo Unit := lq2 (f_X9_init_b82 x0) fuel
set_option maxRecDepth 100000 in
theorem s_X9_init_b82 {cx : CX} (x0 : (Option Nat)) {k82 : Int32 → Int32 → Mo Unit} (hk82 : ∀ (z1 : Int32) (z2 : Int32), Sn cx m_X9_init eV 82 [(1, vI z1), (2, vI z2), (0, vA x0)] [] (k82 z1 z2)) (x1 : Int32) (x2 : Int32) : Sn cx m_X9_init eV 82 [(1, vI x1), (2, vI x2), (0, vA x0)] [] (f_X9_init_b82 x0 k82 x1 x2) := by
  refine sn_iload_n (y := m_X9_init) (pc := 82) dX9_init_82 rfl ?_
  refine sn_ldcS (y := m_X9_init) (pc := 83) (i := 0) rfl (by decide) dX9_init_83 ?_
  refine sn_invStr (y := m_X9_init) (pc := 85) (av := []) (o := (some 3)) (st := [vI x2]) dX9_init_85 lk_X9_50 im_J0_length_8abf5 se_J0_length_8abf5 rfl rfl rfl rfl ⟨by decide, by decide⟩ (c_J0_length_8abf5 cx.1 ((some 3))) (fun r6 => ?_)
  refine sn_icmp_ge (y := m_X9_init) (pc := 88) (tgt := 136) dX9_init_88 (by decide) (fun _ => ?_) (fun _ => ?_)
  · exact sn_return rfl dX9_init_136
  refine sn_ldcS (y := m_X9_init) (pc := 91) (i := 0) rfl (by decide) dX9_init_91 ?_
  refine sn_iload_n (y := m_X9_init) (pc := 93) dX9_init_93 rfl ?_
  refine sn_invStr (y := m_X9_init) (pc := 94) (av := [vI x2]) (o := (some 3)) (st := []) dX9_init_94 lk_X9_56 im_J0_charAt_5068e se_J0_charAt_5068e rfl rfl rfl rfl ⟨by decide, by decide⟩ (c_J0_charAt_5068e cx.1 ((some 3)) x2) (fun r7 => ?_)
  refine sn_istore_n (y := m_X9_init) (pc := 97) dX9_init_97 rfl ?_
  refine sn_iload_n (y := m_X9_init) (pc := 98) dX9_init_98 rfl ?_
  refine sn_bipush (y := m_X9_init) (pc := 99) dX9_init_99 kc_bipush_32 ?_
  refine sn_icmp_ne (y := m_X9_init) (pc := 101) (tgt := 110) dX9_init_101 (by decide) (fun _ => ?_) (fun _ => ?_)
  · refine sn_aload_n (y := m_X9_init) (pc := 110) dX9_init_110 rfl ?_
    refine sn_getA (y := m_X9_init) (pc := 111) ca_7 rfl fk_X9_15 (fun _ _ _ => rfl) dX9_init_111 (fun r8 => ?_)
    refine sn_iload_n (y := m_X9_init) (pc := 114) dX9_init_114 rfl ?_
    refine sn_aload_n (y := m_X9_init) (pc := 115) dX9_init_115 rfl ?_
    refine sn_getA (y := m_X9_init) (pc := 116) ca_7 rfl fk_X9_15 (fun _ _ _ => rfl) dX9_init_116 (fun r9 => ?_)
    refine sn_iload_n (y := m_X9_init) (pc := 119) dX9_init_119 rfl ?_
    refine sn_invS (y := m_X9_init) (pc := 120) (av := [vA r9, vI x1]) (st := [vI x1, vA r8]) dX9_init_120 lk_X9_60 sw_X6_at rfl rfl rfl ⟨by decide, by decide⟩ (c_X6_at cx.1 r9 x1) (fun r10 => ?_)
    refine sn_iload_n (y := m_X9_init) (pc := 123) dX9_init_123 rfl ?_
    refine sn_invS (y := m_X9_init) (pc := 124) (av := [vJ r10, vI r7]) (st := [vI x1, vA r8]) dX9_init_124 lk_X9_65 sw_X9_withLetter rfl rfl rfl ⟨by decide, by decide⟩ (c_X9_withLetter cx.1 r10 r7) (fun r11 => ?_)
    refine sn_invS (y := m_X9_init) (pc := 127) (av := [vA r8, vI x1, vJ r11]) (st := []) dX9_init_127 lk_X9_69 sw_X6_put rfl rfl rfl ⟨by decide, by decide⟩ (c_X6_put cx.1 r8 x1 r11) (fun _ => ?_)
    refine sn_iinc (y := m_X9_init) (pc := 130) (v := x2 + 1) dX9_init_130 rfl (by rfl) rfl ?_
    refine sn_goto (y := m_X9_init) (pc := 133) (tgt := 82) dX9_init_133 (by decide) ?_
    exact sn_sub rfl (hk82 x1 (x2 + 1))
  refine sn_iinc (y := m_X9_init) (pc := 104) (v := x1 + 1) dX9_init_104 rfl (by rfl) rfl ?_
  refine sn_goto (y := m_X9_init) (pc := 107) (tgt := 130) dX9_init_107 (by decide) ?_
  refine sn_iinc (y := m_X9_init) (pc := 130) (v := x2 + 1) dX9_init_130 rfl (by rfl) rfl ?_
  refine sn_goto (y := m_X9_init) (pc := 133) (tgt := 82) dX9_init_133 (by decide) ?_
  exact sn_sub rfl (hk82 (x1 + 1) (x2 + 1))
set_option maxRecDepth 100000 in
theorem s_X9_init_l82 {cx : CX} (x0 : (Option Nat)) (x1 : Int32) (x2 : Int32) : Sn cx m_X9_init eV 82 [(1, vI x1), (2, vI x2), (0, vA x0)] [] (f_X9_init_l82 x0 x1 x2) :=
  sn_lq2 (L := fun x1 x2 => [(1, vI x1), (2, vI x2), (0, vA x0)]) (fun k hk x1 x2 => s_X9_init_b82 x0 hk x1 x2) fuel x1 x2
def f_X9_init (p0 : (Option Nat)) : Mo Unit :=
  mCk 7 p0 (mBd (mNewA 1 (900 : Int32)) (fun r1 => mBd (mPutA 7 0 p0 r1) (fun _ => mBd (mNewA 2 (13 : Int32)) (fun r2 => mBd (mPutA 7 1 p0 r2) (fun _ => mBd (mNewA 1 (900 : Int32)) (fun r3 => mBd (mPutA 7 2 p0 r3) (fun _ => mBd (mNewA 2 (900 : Int32)) (fun r4 => mBd (mPutA 7 3 p0 r4) (fun _ => mBd (mNewA 1 (900 : Int32)) (fun r5 => mBd (mPutA 7 4 p0 r5) (fun _ => mBd (mPutI 7 5 p0 (0 : Int32)) (fun _ => mBd (mPutI 7 6 p0 (0 : Int32)) (fun _ => mBd (mPutI 7 7 p0 (0 : Int32)) (fun _ => mBd (mPutI 7 8 p0 (0 : Int32)) (fun _ => mBd (mPutI 7 9 p0 (0 : Int32)) (fun _ => mBd (mPutJ 7 10 p0 (0 : Int64)) (fun _ => f_X9_init_l82 p0 (0 : Int32) (0 : Int32))))))))))))))))))
set_option maxRecDepth 100000 in
theorem s_X9_init {cx : CX} (p0 : (Option Nat)) : Sn cx m_X9_init eV 0 [(0, vA p0)] [] (f_X9_init p0) := by
  refine sn_aload_n (y := m_X9_init) (pc := 0) dX9_init_0 rfl ?_
  refine sn_objInit (y := m_X9_init) (pc := 1) oi_X9_3 oi_1 oi_2 dX9_init_1 rfl ⟨by decide, by decide⟩ ?_
  refine sn_aload_n (y := m_X9_init) (pc := 4) dX9_init_4 rfl ?_
  refine sn_sipush (y := m_X9_init) (pc := 5) dX9_init_5 kc_sipush_900 ?_
  refine sn_newarray (y := m_X9_init) (pc := 8) (t := 1) rfl (Or.inl rfl) ac_int dX9_init_8 (fun r1 => ?_)
  refine sn_putA (y := m_X9_init) (pc := 10) ca_7 rfl fk_X9_11 (Or.inr ⟨rfl, rfl, rfl, fkm_X9_11⟩) rfl dX9_init_10 ?_
  refine sn_aload_n (y := m_X9_init) (pc := 13) dX9_init_13 rfl ?_
  refine sn_bipush (y := m_X9_init) (pc := 14) dX9_init_14 kc_bipush_13 ?_
  refine sn_newarray (y := m_X9_init) (pc := 16) (t := 2) rfl (Or.inr (Or.inl rfl)) ac_long dX9_init_16 (fun r2 => ?_)
  refine sn_putA (y := m_X9_init) (pc := 18) ca_7 rfl fk_X9_15 (Or.inr ⟨rfl, rfl, rfl, fkm_X9_15⟩) rfl dX9_init_18 ?_
  refine sn_aload_n (y := m_X9_init) (pc := 21) dX9_init_21 rfl ?_
  refine sn_sipush (y := m_X9_init) (pc := 22) dX9_init_22 kc_sipush_900 ?_
  refine sn_newarray (y := m_X9_init) (pc := 25) (t := 1) rfl (Or.inl rfl) ac_int dX9_init_25 (fun r3 => ?_)
  refine sn_putA (y := m_X9_init) (pc := 27) ca_7 rfl fk_X9_19 (Or.inr ⟨rfl, rfl, rfl, fkm_X9_19⟩) rfl dX9_init_27 ?_
  refine sn_aload_n (y := m_X9_init) (pc := 30) dX9_init_30 rfl ?_
  refine sn_sipush (y := m_X9_init) (pc := 31) dX9_init_31 kc_sipush_900 ?_
  refine sn_newarray (y := m_X9_init) (pc := 34) (t := 2) rfl (Or.inr (Or.inl rfl)) ac_long dX9_init_34 (fun r4 => ?_)
  refine sn_putA (y := m_X9_init) (pc := 36) ca_7 rfl fk_X9_22 (Or.inr ⟨rfl, rfl, rfl, fkm_X9_22⟩) rfl dX9_init_36 ?_
  refine sn_aload_n (y := m_X9_init) (pc := 39) dX9_init_39 rfl ?_
  refine sn_sipush (y := m_X9_init) (pc := 40) dX9_init_40 kc_sipush_900 ?_
  refine sn_newarray (y := m_X9_init) (pc := 43) (t := 1) rfl (Or.inl rfl) ac_int dX9_init_43 (fun r5 => ?_)
  refine sn_putA (y := m_X9_init) (pc := 45) ca_7 rfl fk_X9_25 (Or.inr ⟨rfl, rfl, rfl, fkm_X9_25⟩) rfl dX9_init_45 ?_
  refine sn_aload_n (y := m_X9_init) (pc := 48) dX9_init_48 rfl ?_
  refine sn_iconst (y := m_X9_init) (pc := 49) dX9_init_49 kc_iconst_0 ?_
  refine sn_putI (y := m_X9_init) (pc := 50) ca_7 rfl fk_X9_28 (Or.inl rfl) rfl dX9_init_50 ?_
  refine sn_aload_n (y := m_X9_init) (pc := 53) dX9_init_53 rfl ?_
  refine sn_iconst (y := m_X9_init) (pc := 54) dX9_init_54 kc_iconst_0 ?_
  refine sn_putI (y := m_X9_init) (pc := 55) ca_7 rfl fk_X9_32 (Or.inl rfl) rfl dX9_init_55 ?_
  refine sn_aload_n (y := m_X9_init) (pc := 58) dX9_init_58 rfl ?_
  refine sn_iconst (y := m_X9_init) (pc := 59) dX9_init_59 kc_iconst_0 ?_
  refine sn_putI (y := m_X9_init) (pc := 60) ca_7 rfl fk_X9_35 (Or.inl rfl) rfl dX9_init_60 ?_
  refine sn_aload_n (y := m_X9_init) (pc := 63) dX9_init_63 rfl ?_
  refine sn_iconst (y := m_X9_init) (pc := 64) dX9_init_64 kc_iconst_0 ?_
  refine sn_putI (y := m_X9_init) (pc := 65) ca_7 rfl fk_X9_38 (Or.inl rfl) rfl dX9_init_65 ?_
  refine sn_aload_n (y := m_X9_init) (pc := 68) dX9_init_68 rfl ?_
  refine sn_iconst (y := m_X9_init) (pc := 69) dX9_init_69 kc_iconst_0 ?_
  refine sn_putI (y := m_X9_init) (pc := 70) ca_7 rfl fk_X9_41 (Or.inl rfl) rfl dX9_init_70 ?_
  refine sn_aload_n (y := m_X9_init) (pc := 73) dX9_init_73 rfl ?_
  refine sn_lconst (y := m_X9_init) (pc := 74) dX9_init_74 kc_lconst_0 ?_
  refine sn_putJ (y := m_X9_init) (pc := 75) ca_7 rfl fk_X9_44 (Or.inl rfl) rfl dX9_init_75 ?_
  refine sn_iconst (y := m_X9_init) (pc := 78) dX9_init_78 kc_iconst_0 ?_
  refine sn_istore_n (y := m_X9_init) (pc := 79) dX9_init_79 rfl ?_
  refine sn_iconst (y := m_X9_init) (pc := 80) dX9_init_80 kc_iconst_0 ?_
  refine sn_istore_n (y := m_X9_init) (pc := 81) dX9_init_81 rfl ?_
  exact sn_sub rfl (s_X9_init_l82 p0 (0 : Int32) (0 : Int32))
set_option maxRecDepth 100000 in
theorem c_X9_init (g : Gl) (p0 : (Option Nat)) : Cn g m_X9_init eV [vA p0] (mCk 7 p0 (f_X9_init p0)) := cn_of_sn (by decide +kernel) rfl (fun _ => rfl) rfl (fun _ _ => sn_ck (s_X9_init p0))
/-! X5_init -/
def f_X5_init (p0 : (Option Nat)) : Mo Unit :=
  mCk 5 p0 (mBd (mNewA 2 (12 : Int32)) (fun r1 => mBd (mPutA 5 0 p0 r1) (fun _ => mRt ())))
set_option maxRecDepth 100000 in
theorem s_X5_init {cx : CX} (p0 : (Option Nat)) : Sn cx m_X5_init eV 0 [(0, vA p0)] [] (f_X5_init p0) := by
  refine sn_aload_n (y := m_X5_init) (pc := 0) dX5_init_0 rfl ?_
  refine sn_objInit (y := m_X5_init) (pc := 1) oi_X5_3 oi_1 oi_2 dX5_init_1 rfl ⟨by decide, by decide⟩ ?_
  refine sn_aload_n (y := m_X5_init) (pc := 4) dX5_init_4 rfl ?_
  refine sn_bipush (y := m_X5_init) (pc := 5) dX5_init_5 kc_bipush_12 ?_
  refine sn_newarray (y := m_X5_init) (pc := 7) (t := 2) rfl (Or.inr (Or.inl rfl)) ac_long dX5_init_7 (fun r1 => ?_)
  refine sn_putA (y := m_X5_init) (pc := 9) ca_5 rfl fk_X5_11 (Or.inr ⟨rfl, rfl, rfl, fkm_X5_11⟩) rfl dX5_init_9 ?_
  exact sn_return rfl dX5_init_12
set_option maxRecDepth 100000 in
theorem c_X5_init (g : Gl) (p0 : (Option Nat)) : Cn g m_X5_init eV [vA p0] (mCk 5 p0 (f_X5_init p0)) := cn_of_sn (by decide +kernel) rfl (fun _ => rfl) rfl (fun _ _ => sn_ck (s_X5_init p0))
/-! X3_init -/
def f_X3_init (p0 : (Option Nat)) : Mo Unit :=
  mCk 3 p0 (mBd (mNew 7) (fun r1 => mBd (mCk 7 r1 (f_X9_init r1)) (fun _ => mBd (mPutA 3 0 p0 r1) (fun _ => mBd (mNew 5) (fun r2 => mBd (mCk 5 r2 (f_X5_init r2)) (fun _ => mBd (mPutA 3 1 p0 r2) (fun _ => mBd (mNewM (9 : Int32) (10 : Int32)) (fun r3 => mBd (mPutA 3 2 p0 r3) (fun _ => mBd (mNewM (9 : Int32) (10 : Int32)) (fun r4 => mBd (mPutA 3 3 p0 r4) (fun _ => mBd (mNewM (9 : Int32) (10 : Int32)) (fun r5 => mBd (mPutA 3 4 p0 r5) (fun _ => mBd (mNew 0) (fun r6 => mBd (mCk 0 r6 (f_X0_init r6)) (fun _ => mBd (mPutA 3 5 p0 r6) (fun _ => mBd (mNew 2) (fun r7 => mBd (mCk 2 r7 (f_X2_init r7)) (fun _ => mBd (mPutA 3 6 p0 r7) (fun _ => mBd (mPutI 3 7 p0 (-1 : Int32)) (fun _ => mBd (mPutJ 3 8 p0 (0 : Int64)) (fun _ => mBd (mPutI 3 9 p0 (0 : Int32)) (fun _ => mBd (mPutI 3 10 p0 (0 : Int32)) (fun _ => mBd (mPutI 3 11 p0 (0 : Int32)) (fun _ => mBd (mPutI 3 12 p0 (-1 : Int32)) (fun _ => mBd (mPutZ 3 13 p0 (0 : Int32)) (fun _ => mRt ()))))))))))))))))))))))))))
set_option maxRecDepth 100000 in
theorem s_X3_init {cx : CX} (p0 : (Option Nat)) : Sn cx m_X3_init eV 0 [(0, vA p0)] [] (f_X3_init p0) := by
  refine sn_aload_n (y := m_X3_init) (pc := 0) dX3_init_0 rfl ?_
  refine sn_objInit (y := m_X3_init) (pc := 1) oi_X3_3 oi_1 oi_2 dX3_init_1 rfl ⟨by decide, by decide⟩ ?_
  refine sn_aload_n (y := m_X3_init) (pc := 4) dX3_init_4 rfl ?_
  refine sn_new (y := m_X3_init) (pc := 5) ca_7 nk_X3_9 dX3_init_5 (fun r1 => ?_)
  refine sn_dup (y := m_X3_init) (pc := 8) rfl dX3_init_8 ?_
  refine sn_invI (y := m_X3_init) (pc := 9) (c := 7) (av := []) (o := r1) (st := [vA r1, vA p0]) dX3_init_9 (Or.inl lk_X3_11) im_X9_init rfl rfl rfl rfl rfl ⟨by decide, by decide⟩ (c_X9_init cx.1 r1) (fun _ => ?_)
  refine sn_putA (y := m_X3_init) (pc := 12) ca_3 rfl fk_X3_12 (Or.inr ⟨rfl, rfl, rfl, fkm_X3_12⟩) rfl dX3_init_12 ?_
  refine sn_aload_n (y := m_X3_init) (pc := 15) dX3_init_15 rfl ?_
  refine sn_new (y := m_X3_init) (pc := 16) ca_5 nk_X3_18 dX3_init_16 (fun r2 => ?_)
  refine sn_dup (y := m_X3_init) (pc := 19) rfl dX3_init_19 ?_
  refine sn_invI (y := m_X3_init) (pc := 20) (c := 5) (av := []) (o := r2) (st := [vA r2, vA p0]) dX3_init_20 (Or.inl lk_X3_20) im_X5_init rfl rfl rfl rfl rfl ⟨by decide, by decide⟩ (c_X5_init cx.1 r2) (fun _ => ?_)
  refine sn_putA (y := m_X3_init) (pc := 23) ca_3 rfl fk_X3_21 (Or.inr ⟨rfl, rfl, rfl, fkm_X3_21⟩) rfl dX3_init_23 ?_
  refine sn_aload_n (y := m_X3_init) (pc := 26) dX3_init_26 rfl ?_
  refine sn_bipush (y := m_X3_init) (pc := 27) dX3_init_27 kc_bipush_9 ?_
  refine sn_bipush (y := m_X3_init) (pc := 29) dX3_init_29 kc_bipush_10 ?_
  refine sn_mnew (y := m_X3_init) (pc := 31) cl_X3_25 ac_long dX3_init_31 (fun r3 => ?_)
  refine sn_putA (y := m_X3_init) (pc := 35) ca_3 rfl fk_X3_27 (Or.inr ⟨rfl, rfl, rfl, fkm_X3_27⟩) rfl dX3_init_35 ?_
  refine sn_aload_n (y := m_X3_init) (pc := 38) dX3_init_38 rfl ?_
  refine sn_bipush (y := m_X3_init) (pc := 39) dX3_init_39 kc_bipush_9 ?_
  refine sn_bipush (y := m_X3_init) (pc := 41) dX3_init_41 kc_bipush_10 ?_
  refine sn_mnew (y := m_X3_init) (pc := 43) cl_X3_25 ac_long dX3_init_43 (fun r4 => ?_)
  refine sn_putA (y := m_X3_init) (pc := 47) ca_3 rfl fk_X3_30 (Or.inr ⟨rfl, rfl, rfl, fkm_X3_30⟩) rfl dX3_init_47 ?_
  refine sn_aload_n (y := m_X3_init) (pc := 50) dX3_init_50 rfl ?_
  refine sn_bipush (y := m_X3_init) (pc := 51) dX3_init_51 kc_bipush_9 ?_
  refine sn_bipush (y := m_X3_init) (pc := 53) dX3_init_53 kc_bipush_10 ?_
  refine sn_mnew (y := m_X3_init) (pc := 55) cl_X3_25 ac_long dX3_init_55 (fun r5 => ?_)
  refine sn_putA (y := m_X3_init) (pc := 59) ca_3 rfl fk_X3_33 (Or.inr ⟨rfl, rfl, rfl, fkm_X3_33⟩) rfl dX3_init_59 ?_
  refine sn_aload_n (y := m_X3_init) (pc := 62) dX3_init_62 rfl ?_
  refine sn_new (y := m_X3_init) (pc := 63) ca_0 nk_X3_36 dX3_init_63 (fun r6 => ?_)
  refine sn_dup (y := m_X3_init) (pc := 66) rfl dX3_init_66 ?_
  refine sn_invI (y := m_X3_init) (pc := 67) (c := 0) (av := []) (o := r6) (st := [vA r6, vA p0]) dX3_init_67 (Or.inl lk_X3_38) im_X0_init rfl rfl rfl rfl rfl ⟨by decide, by decide⟩ (c_X0_init cx.1 r6) (fun _ => ?_)
  refine sn_putA (y := m_X3_init) (pc := 70) ca_3 rfl fk_X3_39 (Or.inl rfl) rfl dX3_init_70 ?_
  refine sn_aload_n (y := m_X3_init) (pc := 73) dX3_init_73 rfl ?_
  refine sn_new (y := m_X3_init) (pc := 74) ca_2 nk_X3_43 dX3_init_74 (fun r7 => ?_)
  refine sn_dup (y := m_X3_init) (pc := 77) rfl dX3_init_77 ?_
  refine sn_invI (y := m_X3_init) (pc := 78) (c := 2) (av := []) (o := r7) (st := [vA r7, vA p0]) dX3_init_78 (Or.inl lk_X3_45) im_X2_init rfl rfl rfl rfl rfl ⟨by decide, by decide⟩ (c_X2_init cx.1 r7) (fun _ => ?_)
  refine sn_putA (y := m_X3_init) (pc := 81) ca_3 rfl fk_X3_46 (Or.inl rfl) rfl dX3_init_81 ?_
  refine sn_aload_n (y := m_X3_init) (pc := 84) dX3_init_84 rfl ?_
  refine sn_iconst (y := m_X3_init) (pc := 85) dX3_init_85 kc_iconst_m1 ?_
  refine sn_putI (y := m_X3_init) (pc := 86) ca_3 rfl fk_X3_50 (Or.inl rfl) rfl dX3_init_86 ?_
  refine sn_aload_n (y := m_X3_init) (pc := 89) dX3_init_89 rfl ?_
  refine sn_lconst (y := m_X3_init) (pc := 90) dX3_init_90 kc_lconst_0 ?_
  refine sn_putJ (y := m_X3_init) (pc := 91) ca_3 rfl fk_X3_54 (Or.inl rfl) rfl dX3_init_91 ?_
  refine sn_aload_n (y := m_X3_init) (pc := 94) dX3_init_94 rfl ?_
  refine sn_iconst (y := m_X3_init) (pc := 95) dX3_init_95 kc_iconst_0 ?_
  refine sn_putI (y := m_X3_init) (pc := 96) ca_3 rfl fk_X3_58 (Or.inl rfl) rfl dX3_init_96 ?_
  refine sn_aload_n (y := m_X3_init) (pc := 99) dX3_init_99 rfl ?_
  refine sn_iconst (y := m_X3_init) (pc := 100) dX3_init_100 kc_iconst_0 ?_
  refine sn_putI (y := m_X3_init) (pc := 101) ca_3 rfl fk_X3_61 (Or.inl rfl) rfl dX3_init_101 ?_
  refine sn_aload_n (y := m_X3_init) (pc := 104) dX3_init_104 rfl ?_
  refine sn_iconst (y := m_X3_init) (pc := 105) dX3_init_105 kc_iconst_0 ?_
  refine sn_putI (y := m_X3_init) (pc := 106) ca_3 rfl fk_X3_64 (Or.inl rfl) rfl dX3_init_106 ?_
  refine sn_aload_n (y := m_X3_init) (pc := 109) dX3_init_109 rfl ?_
  refine sn_iconst (y := m_X3_init) (pc := 110) dX3_init_110 kc_iconst_m1 ?_
  refine sn_putI (y := m_X3_init) (pc := 111) ca_3 rfl fk_X3_67 (Or.inl rfl) rfl dX3_init_111 ?_
  refine sn_aload_n (y := m_X3_init) (pc := 114) dX3_init_114 rfl ?_
  refine sn_iconst (y := m_X3_init) (pc := 115) dX3_init_115 kc_iconst_0 ?_
  refine sn_putZ (y := m_X3_init) (pc := 116) ca_3 rfl fk_X3_70 (Or.inl rfl) rfl dX3_init_116 ?_
  exact sn_return rfl dX3_init_119
set_option maxRecDepth 100000 in
theorem c_X3_init (g : Gl) (p0 : (Option Nat)) : Cn g m_X3_init eV [vA p0] (mCk 3 p0 (f_X3_init p0)) := cn_of_sn (by decide +kernel) rfl (fun _ => rfl) rfl (fun _ _ => sn_ck (s_X3_init p0))
/-! X3_tape -/
def f_X3_tape (p0 : (Option Nat)) : Mo (Option Nat) :=
  mBd (mGetA 3 0 p0) (fun r1 => mRt r1)
set_option maxRecDepth 100000 in
theorem s_X3_tape {cx : CX} (p0 : (Option Nat)) : Sn cx m_X3_tape eA 0 [(0, vA p0)] [] (f_X3_tape p0) := by
  refine sn_aload_n (y := m_X3_tape) (pc := 0) dX3_tape_0 rfl ?_
  refine sn_getA (y := m_X3_tape) (pc := 1) ca_3 rfl fk_X3_12 (fun _ _ _ => rfl) dX3_tape_1 (fun r1 => ?_)
  exact sn_areturn (Or.inl ⟨_, rfl⟩) dX3_tape_4
set_option maxRecDepth 100000 in
theorem c_X3_tape (g : Gl) (p0 : (Option Nat)) : Cn g m_X3_tape eA [vA p0] (mCk 3 p0 (f_X3_tape p0)) := cn_of_sn (by decide +kernel) rfl (fun r => ⟨r, rfl⟩) rfl (fun _ _ => sn_ck (s_X3_tape p0))
/-! J9_min_7cf53 -/
def f_J9_min_7cf53 (p0 : Int32) (p1 : Int32) : Mo Int32 :=
  (if p0 > p1 then mRt p1 else mRt p0)
set_option maxRecDepth 100000 in
theorem s_J9_min_7cf53 {cx : CX} (p0 : Int32) (p1 : Int32) : Sn cx m_J9_min_7cf53 eI 0 [(0, vI p0), (1, vI p1)] [] (f_J9_min_7cf53 p0 p1) := by
  refine sn_iload_n (y := m_J9_min_7cf53) (pc := 0) dJ9_min_7cf53_0 rfl ?_
  refine sn_iload_n (y := m_J9_min_7cf53) (pc := 1) dJ9_min_7cf53_1 rfl ?_
  refine sn_icmp_gt (y := m_J9_min_7cf53) (pc := 2) (tgt := 9) dJ9_min_7cf53_2 (by decide) (fun _ => ?_) (fun _ => ?_)
  · refine sn_iload_n (y := m_J9_min_7cf53) (pc := 9) dJ9_min_7cf53_9 rfl ?_
    exact sn_ireturn rfl dJ9_min_7cf53_10
  refine sn_iload_n (y := m_J9_min_7cf53) (pc := 5) dJ9_min_7cf53_5 rfl ?_
  refine sn_goto (y := m_J9_min_7cf53) (pc := 6) (tgt := 10) dJ9_min_7cf53_6 (by decide) ?_
  exact sn_ireturn rfl dJ9_min_7cf53_10
set_option maxRecDepth 100000 in
theorem c_J9_min_7cf53 (g : Gl) (p0 : Int32) (p1 : Int32) : Cn g m_J9_min_7cf53 eI [vI p0, vI p1] (f_J9_min_7cf53 p0 p1) := cn_of_sn (by decide +kernel) rfl (fun r => ⟨r, rfl⟩) rfl (fun _ _ => s_J9_min_7cf53 p0 p1)
/-! X9_isLetter -/
def f_X9_isLetter (p0 : Int32) : Mo Int32 :=
  (if p0 < (97 : Int32) then mRt (0 : Int32) else (if p0 > (122 : Int32) then mRt (0 : Int32) else mRt (1 : Int32)))
set_option maxRecDepth 100000 in
theorem s_X9_isLetter {cx : CX} (p0 : Int32) : Sn cx m_X9_isLetter eI 0 [(0, vI p0)] [] (f_X9_isLetter p0) := by
  refine sn_iload_n (y := m_X9_isLetter) (pc := 0) dX9_isLetter_0 rfl ?_
  refine sn_bipush (y := m_X9_isLetter) (pc := 1) dX9_isLetter_1 kc_bipush_97 ?_
  refine sn_icmp_lt (y := m_X9_isLetter) (pc := 3) (tgt := 16) dX9_isLetter_3 (by decide) (fun _ => ?_) (fun _ => ?_)
  · refine sn_iconst (y := m_X9_isLetter) (pc := 16) dX9_isLetter_16 kc_iconst_0 ?_
    exact sn_zreturnC (by decide) rfl dX9_isLetter_17
  refine sn_iload_n (y := m_X9_isLetter) (pc := 6) dX9_isLetter_6 rfl ?_
  refine sn_bipush (y := m_X9_isLetter) (pc := 7) dX9_isLetter_7 kc_bipush_122 ?_
  refine sn_icmp_gt (y := m_X9_isLetter) (pc := 9) (tgt := 16) dX9_isLetter_9 (by decide) (fun _ => ?_) (fun _ => ?_)
  · refine sn_iconst (y := m_X9_isLetter) (pc := 16) dX9_isLetter_16 kc_iconst_0 ?_
    exact sn_zreturnC (by decide) rfl dX9_isLetter_17
  refine sn_iconst (y := m_X9_isLetter) (pc := 12) dX9_isLetter_12 kc_iconst_1 ?_
  refine sn_goto (y := m_X9_isLetter) (pc := 13) (tgt := 17) dX9_isLetter_13 (by decide) ?_
  exact sn_zreturnC (by decide) rfl dX9_isLetter_17
set_option maxRecDepth 100000 in
theorem c_X9_isLetter (g : Gl) (p0 : Int32) : Cn g m_X9_isLetter eI [vI p0] (f_X9_isLetter p0) := cn_of_sn (by decide +kernel) rfl (fun r => ⟨r, rfl⟩) rfl (fun _ _ => s_X9_isLetter p0)
/-! X9_keptNumber -/
def f_X9_keptNumber_b2 (x0 : (Option Nat)) (x1 : Int64) (k2 : Int32 → Mo Int32) (x3 : Int32) : Mo Int32 :=
  mBd (mGetA 7 1 x0) (fun r1 => mBd (mLen r1) (fun r2 => (if x3 ≥ r2 then mRt (-1 : Int32) else mBd (mGetA 7 1 x0) (fun r3 => mBd (mLdJ r3 x3) (fun r4 => (if ¬ r4 = x1 then k2 (x3 + 1) else mRt x3))))))
def f_X9_keptNumber_l2 (x0 : (Option Nat)) (x1 : Int64) : Int32 → Mo Int32 := lq1 (f_X9_keptNumber_b2 x0 x1) fuel
set_option maxRecDepth 100000 in
theorem s_X9_keptNumber_b2 {cx : CX} (x0 : (Option Nat)) (x1 : Int64) {k2 : Int32 → Mo Int32} (hk2 : ∀ (z3 : Int32), Sn cx m_X9_keptNumber eI 2 [(3, vI z3), (0, vA x0), (1, vJ x1)] [] (k2 z3)) (x3 : Int32) : Sn cx m_X9_keptNumber eI 2 [(3, vI x3), (0, vA x0), (1, vJ x1)] [] (f_X9_keptNumber_b2 x0 x1 k2 x3) := by
  refine sn_iload_n (y := m_X9_keptNumber) (pc := 2) dX9_keptNumber_2 rfl ?_
  refine sn_aload_n (y := m_X9_keptNumber) (pc := 3) dX9_keptNumber_3 rfl ?_
  refine sn_getA (y := m_X9_keptNumber) (pc := 4) ca_7 rfl fk_X9_15 (fun _ _ _ => rfl) dX9_keptNumber_4 (fun r1 => ?_)
  refine sn_alen (y := m_X9_keptNumber) (pc := 7) dX9_keptNumber_7 (fun r2 => ?_)
  refine sn_icmp_ge (y := m_X9_keptNumber) (pc := 8) (tgt := 30) dX9_keptNumber_8 (by decide) (fun _ => ?_) (fun _ => ?_)
  · refine sn_iconst (y := m_X9_keptNumber) (pc := 30) dX9_keptNumber_30 kc_iconst_m1 ?_
    exact sn_ireturn rfl dX9_keptNumber_31
  refine sn_aload_n (y := m_X9_keptNumber) (pc := 11) dX9_keptNumber_11 rfl ?_
  refine sn_getA (y := m_X9_keptNumber) (pc := 12) ca_7 rfl fk_X9_15 (fun _ _ _ => rfl) dX9_keptNumber_12 (fun r3 => ?_)
  refine sn_iload_n (y := m_X9_keptNumber) (pc := 15) dX9_keptNumber_15 rfl ?_
  refine sn_laload (y := m_X9_keptNumber) (pc := 16) dX9_keptNumber_16 (fun r4 => ?_)
  refine sn_lload_n (y := m_X9_keptNumber) (pc := 17) dX9_keptNumber_17 rfl ?_
  refine sn_lc_ne (y := m_X9_keptNumber) (pc := 18) (tgt := 24) dX9_keptNumber_18 dX9_keptNumber_19 (by decide) (fun _ => ?_) (fun _ => ?_)
  · refine sn_iinc (y := m_X9_keptNumber) (pc := 24) (v := x3 + 1) dX9_keptNumber_24 rfl (by rfl) rfl ?_
    refine sn_goto (y := m_X9_keptNumber) (pc := 27) (tgt := 2) dX9_keptNumber_27 (by decide) ?_
    exact sn_sub rfl (hk2 (x3 + 1))
  refine sn_iload_n (y := m_X9_keptNumber) (pc := 22) dX9_keptNumber_22 rfl ?_
  exact sn_ireturn rfl dX9_keptNumber_23
set_option maxRecDepth 100000 in
theorem s_X9_keptNumber_l2 {cx : CX} (x0 : (Option Nat)) (x1 : Int64) (x3 : Int32) : Sn cx m_X9_keptNumber eI 2 [(3, vI x3), (0, vA x0), (1, vJ x1)] [] (f_X9_keptNumber_l2 x0 x1 x3) :=
  sn_lq1 (L := fun x3 => [(3, vI x3), (0, vA x0), (1, vJ x1)]) (fun k hk x3 => s_X9_keptNumber_b2 x0 x1 hk x3) fuel x3
def f_X9_keptNumber (p0 : (Option Nat)) (p1 : Int64) : Mo Int32 :=
  f_X9_keptNumber_l2 p0 p1 (0 : Int32)
set_option maxRecDepth 100000 in
theorem s_X9_keptNumber {cx : CX} (p0 : (Option Nat)) (p1 : Int64) : Sn cx m_X9_keptNumber eI 0 [(0, vA p0), (1, vJ p1)] [] (f_X9_keptNumber p0 p1) := by
  refine sn_iconst (y := m_X9_keptNumber) (pc := 0) dX9_keptNumber_0 kc_iconst_0 ?_
  refine sn_istore_n (y := m_X9_keptNumber) (pc := 1) dX9_keptNumber_1 rfl ?_
  exact sn_sub rfl (s_X9_keptNumber_l2 p0 p1 (0 : Int32))
set_option maxRecDepth 100000 in
theorem c_X9_keptNumber (g : Gl) (p0 : (Option Nat)) (p1 : Int64) : Cn g m_X9_keptNumber eI [vA p0, vJ p1] (mCk 7 p0 (f_X9_keptNumber p0 p1)) := cn_of_sn (by decide +kernel) rfl (fun r => ⟨r, rfl⟩) rfl (fun _ _ => sn_ck (s_X9_keptNumber p0 p1))
/-! X9_keepToken -/
def f_X9_keepToken (p0 : (Option Nat)) (p1 : Int32) (p2 : Int64) (p4 : Int32) : Mo Unit :=
  mBd (mGetA 7 2 p0) (fun r1 => mBd (mGetI 7 6 p0) (fun r2 => mBd (f_X6_mark r1 r2 p1) (fun _ => mBd (mGetA 7 3 p0) (fun r3 => mBd (mGetI 7 6 p0) (fun r4 => mBd (f_X6_put r3 r4 p2) (fun _ => mBd (mGetA 7 4 p0) (fun r5 => mBd (mGetI 7 6 p0) (fun r6 => mBd (f_X6_mark r5 r6 p4) (fun _ => mBd (mGetI 7 6 p0) (fun r7 => mBd (mPutI 7 6 p0 (r7 + (1 : Int32))) (fun _ => mRt ())))))))))))
set_option maxRecDepth 100000 in
theorem s_X9_keepToken {cx : CX} (p0 : (Option Nat)) (p1 : Int32) (p2 : Int64) (p4 : Int32) : Sn cx m_X9_keepToken eV 0 [(0, vA p0), (1, vI p1), (2, vJ p2), (4, vI p4)] [] (f_X9_keepToken p0 p1 p2 p4) := by
  refine sn_aload_n (y := m_X9_keepToken) (pc := 0) dX9_keepToken_0 rfl ?_
  refine sn_getA (y := m_X9_keepToken) (pc := 1) ca_7 rfl fk_X9_19 (fun _ _ _ => rfl) dX9_keepToken_1 (fun r1 => ?_)
  refine sn_aload_n (y := m_X9_keepToken) (pc := 4) dX9_keepToken_4 rfl ?_
  refine sn_getI (y := m_X9_keepToken) (pc := 5) ca_7 rfl fk_X9_32 (fun _ _ _ => rfl) dX9_keepToken_5 (fun r2 => ?_)
  refine sn_iload_n (y := m_X9_keepToken) (pc := 8) dX9_keepToken_8 rfl ?_
  refine sn_invS (y := m_X9_keepToken) (pc := 9) (av := [vA r1, vI r2, vI p1]) (st := []) dX9_keepToken_9 lk_X9_75 sw_X6_mark rfl rfl rfl ⟨by decide, by decide⟩ (c_X6_mark cx.1 r1 r2 p1) (fun _ => ?_)
  refine sn_aload_n (y := m_X9_keepToken) (pc := 12) dX9_keepToken_12 rfl ?_
  refine sn_getA (y := m_X9_keepToken) (pc := 13) ca_7 rfl fk_X9_22 (fun _ _ _ => rfl) dX9_keepToken_13 (fun r3 => ?_)
  refine sn_aload_n (y := m_X9_keepToken) (pc := 16) dX9_keepToken_16 rfl ?_
  refine sn_getI (y := m_X9_keepToken) (pc := 17) ca_7 rfl fk_X9_32 (fun _ _ _ => rfl) dX9_keepToken_17 (fun r4 => ?_)
  refine sn_lload_n (y := m_X9_keepToken) (pc := 20) dX9_keepToken_20 rfl ?_
  refine sn_invS (y := m_X9_keepToken) (pc := 21) (av := [vA r3, vI r4, vJ p2]) (st := []) dX9_keepToken_21 lk_X9_69 sw_X6_put rfl rfl rfl ⟨by decide, by decide⟩ (c_X6_put cx.1 r3 r4 p2) (fun _ => ?_)
  refine sn_aload_n (y := m_X9_keepToken) (pc := 24) dX9_keepToken_24 rfl ?_
  refine sn_getA (y := m_X9_keepToken) (pc := 25) ca_7 rfl fk_X9_25 (fun _ _ _ => rfl) dX9_keepToken_25 (fun r5 => ?_)
  refine sn_aload_n (y := m_X9_keepToken) (pc := 28) dX9_keepToken_28 rfl ?_
  refine sn_getI (y := m_X9_keepToken) (pc := 29) ca_7 rfl fk_X9_32 (fun _ _ _ => rfl) dX9_keepToken_29 (fun r6 => ?_)
  refine sn_iload (y := m_X9_keepToken) (pc := 32) dX9_keepToken_32 rfl ?_
  refine sn_invS (y := m_X9_keepToken) (pc := 34) (av := [vA r5, vI r6, vI p4]) (st := []) dX9_keepToken_34 lk_X9_75 sw_X6_mark rfl rfl rfl ⟨by decide, by decide⟩ (c_X6_mark cx.1 r5 r6 p4) (fun _ => ?_)
  refine sn_aload_n (y := m_X9_keepToken) (pc := 37) dX9_keepToken_37 rfl ?_
  refine sn_dup (y := m_X9_keepToken) (pc := 38) rfl dX9_keepToken_38 ?_
  refine sn_getI (y := m_X9_keepToken) (pc := 39) ca_7 rfl fk_X9_32 (fun _ _ _ => rfl) dX9_keepToken_39 (fun r7 => ?_)
  refine sn_iconst (y := m_X9_keepToken) (pc := 42) dX9_keepToken_42 kc_iconst_1 ?_
  refine sn_iadd (y := m_X9_keepToken) (pc := 43) dX9_keepToken_43 ?_
  refine sn_putI (y := m_X9_keepToken) (pc := 44) ca_7 rfl fk_X9_32 (Or.inl rfl) rfl dX9_keepToken_44 ?_
  exact sn_return rfl dX9_keepToken_47
set_option maxRecDepth 100000 in
theorem c_X9_keepToken (g : Gl) (p0 : (Option Nat)) (p1 : Int32) (p2 : Int64) (p4 : Int32) : Cn g m_X9_keepToken eV [vA p0, vI p1, vJ p2, vI p4] (mCk 7 p0 (f_X9_keepToken p0 p1 p2 p4)) := cn_of_sn (by decide +kernel) rfl (fun _ => rfl) rfl (fun _ _ => sn_ck (s_X9_keepToken p0 p1 p2 p4))
/-! X9_splitWord -/
def f_X9_splitWord_j45 (x0 : (Option Nat)) (x1 : Int32) (x2 : Int32) (x3 : Int64) : Mo Int32 :=
  mBd (mCk 7 x0 (f_X9_keptNumber x0 x3)) (fun r2 => (if (x2 - x1) ≤ (8 : Int32) then (if r2 < 0 then mBd (mCk 7 x0 (f_X9_keepToken x0 (5 : Int32) x3 x1)) (fun _ => mRt x2) else mBd (mCk 7 x0 (f_X9_keepToken x0 (4 : Int32) (r2.toInt64) x1)) (fun _ => mRt x2)) else mBd (mCk 7 x0 (f_X9_keepToken x0 (1 : Int32) (0 : Int64) x1)) (fun _ => mRt x2)))
set_option maxRecDepth 100000 in
theorem s_X9_splitWord_j45 {cx : CX} (x0 : (Option Nat)) (x1 : Int32) (x2 : Int32) (x3 : Int64) : Sn cx m_X9_splitWord eI 45 [(0, vA x0), (1, vI x1), (2, vI x2), (3, vJ x3)] [] (f_X9_splitWord_j45 x0 x1 x2 x3) := by
  refine sn_aload_n (y := m_X9_splitWord) (pc := 45) dX9_splitWord_45 rfl ?_
  refine sn_lload_n (y := m_X9_splitWord) (pc := 46) dX9_splitWord_46 rfl ?_
  refine sn_invV (y := m_X9_splitWord) (pc := 47) ca_7 (av := [vJ x3]) (o := x0) (st := []) dX9_splitWord_47 lk_X9_115 im_X9_keptNumber se_X9_keptNumber rfl rfl rfl rfl ⟨by decide, by decide⟩ (c_X9_keptNumber cx.1 x0 x3) (fun r2 => ?_)
  refine sn_istore (y := m_X9_splitWord) (pc := 50) dX9_splitWord_50 rfl ?_
  refine sn_iload_n (y := m_X9_splitWord) (pc := 52) dX9_splitWord_52 rfl ?_
  refine sn_iload_n (y := m_X9_splitWord) (pc := 53) dX9_splitWord_53 rfl ?_
  refine sn_isub (y := m_X9_splitWord) (pc := 54) dX9_splitWord_54 ?_
  refine sn_bipush (y := m_X9_splitWord) (pc := 55) dX9_splitWord_55 kc_bipush_8 ?_
  refine sn_icmp_le (y := m_X9_splitWord) (pc := 57) (tgt := 70) dX9_splitWord_57 (by decide) (fun _ => ?_) (fun _ => ?_)
  · refine sn_iload (y := m_X9_splitWord) (pc := 70) dX9_splitWord_70 rfl ?_
    refine sn_if_lt (y := m_X9_splitWord) (pc := 72) (tgt := 87) dX9_splitWord_72 (by decide) (fun _ => ?_) (fun _ => ?_)
    · refine sn_aload_n (y := m_X9_splitWord) (pc := 87) dX9_splitWord_87 rfl ?_
      refine sn_iconst (y := m_X9_splitWord) (pc := 88) dX9_splitWord_88 kc_iconst_5 ?_
      refine sn_lload_n (y := m_X9_splitWord) (pc := 89) dX9_splitWord_89 rfl ?_
      refine sn_iload_n (y := m_X9_splitWord) (pc := 90) dX9_splitWord_90 rfl ?_
      refine sn_invV (y := m_X9_splitWord) (pc := 91) ca_7 (av := [vI (5 : Int32), vJ x3, vI x1]) (o := x0) (st := []) dX9_splitWord_91 lk_X9_108 im_X9_keepToken se_X9_keepToken rfl rfl rfl rfl ⟨by decide, by decide⟩ (c_X9_keepToken cx.1 x0 (5 : Int32) x3 x1) (fun _ => ?_)
      refine sn_iload_n (y := m_X9_splitWord) (pc := 94) dX9_splitWord_94 rfl ?_
      exact sn_ireturn rfl dX9_splitWord_95
    refine sn_aload_n (y := m_X9_splitWord) (pc := 75) dX9_splitWord_75 rfl ?_
    refine sn_iconst (y := m_X9_splitWord) (pc := 76) dX9_splitWord_76 kc_iconst_4 ?_
    refine sn_iload (y := m_X9_splitWord) (pc := 77) dX9_splitWord_77 rfl ?_
    refine sn_i2l (y := m_X9_splitWord) (pc := 79) dX9_splitWord_79 ?_
    refine sn_iload_n (y := m_X9_splitWord) (pc := 80) dX9_splitWord_80 rfl ?_
    refine sn_invV (y := m_X9_splitWord) (pc := 81) ca_7 (av := [vI (4 : Int32), vJ (r2.toInt64), vI x1]) (o := x0) (st := []) dX9_splitWord_81 lk_X9_108 im_X9_keepToken se_X9_keepToken rfl rfl rfl rfl ⟨by decide, by decide⟩ (c_X9_keepToken cx.1 x0 (4 : Int32) (r2.toInt64) x1) (fun _ => ?_)
    refine sn_goto (y := m_X9_splitWord) (pc := 84) (tgt := 94) dX9_splitWord_84 (by decide) ?_
    refine sn_iload_n (y := m_X9_splitWord) (pc := 94) dX9_splitWord_94 rfl ?_
    exact sn_ireturn rfl dX9_splitWord_95
  refine sn_aload_n (y := m_X9_splitWord) (pc := 60) dX9_splitWord_60 rfl ?_
  refine sn_iconst (y := m_X9_splitWord) (pc := 61) dX9_splitWord_61 kc_iconst_1 ?_
  refine sn_lconst (y := m_X9_splitWord) (pc := 62) dX9_splitWord_62 kc_lconst_0 ?_
  refine sn_iload_n (y := m_X9_splitWord) (pc := 63) dX9_splitWord_63 rfl ?_
  refine sn_invV (y := m_X9_splitWord) (pc := 64) ca_7 (av := [vI (1 : Int32), vJ (0 : Int64), vI x1]) (o := x0) (st := []) dX9_splitWord_64 lk_X9_108 im_X9_keepToken se_X9_keepToken rfl rfl rfl rfl ⟨by decide, by decide⟩ (c_X9_keepToken cx.1 x0 (1 : Int32) (0 : Int64) x1) (fun _ => ?_)
  refine sn_goto (y := m_X9_splitWord) (pc := 67) (tgt := 94) dX9_splitWord_67 (by decide) ?_
  refine sn_iload_n (y := m_X9_splitWord) (pc := 94) dX9_splitWord_94 rfl ?_
  exact sn_ireturn rfl dX9_splitWord_95
def f_X9_splitWord_b4 (x0 : (Option Nat)) (x1 : Int32) (k4 : Int32 → Int64 → Mo Int32) (x2 : Int32) (x3 : Int64) : Mo Int32 :=
  mBd (mGetI 7 7 x0) (fun r1 => (if x2 ≥ r1 then f_X9_splitWord_j45 x0 x1 x2 x3 else mBd (mGetA 7 0 x0) (fun r3 => mBd (f_X6_cell r3 x2) (fun r4 => mBd (f_X9_isLetter r4) (fun r5 => (if r5 = 0 then f_X9_splitWord_j45 x0 x1 x2 x3 else mBd (mGetA 7 0 x0) (fun r6 => mBd (f_X6_cell r6 x2) (fun r7 => mBd (f_X9_withLetter x3 r7) (fun r8 => k4 (x2 + 1) r8)))))))))
def f_X9_splitWord_l4 (x0 : (Option Nat)) (x1 : Int32) : Int32 → Int64 → Mo Int32 := lq2 (f_X9_splitWord_b4 x0 x1) fuel
set_option maxRecDepth 100000 in
theorem s_X9_splitWord_b4 {cx : CX} (x0 : (Option Nat)) (x1 : Int32) {k4 : Int32 → Int64 → Mo Int32} (hk4 : ∀ (z2 : Int32) (z3 : Int64), Sn cx m_X9_splitWord eI 4 [(2, vI z2), (3, vJ z3), (0, vA x0), (1, vI x1)] [] (k4 z2 z3)) (x2 : Int32) (x3 : Int64) : Sn cx m_X9_splitWord eI 4 [(2, vI x2), (3, vJ x3), (0, vA x0), (1, vI x1)] [] (f_X9_splitWord_b4 x0 x1 k4 x2 x3) := by
  refine sn_iload_n (y := m_X9_splitWord) (pc := 4) dX9_splitWord_4 rfl ?_
  refine sn_aload_n (y := m_X9_splitWord) (pc := 5) dX9_splitWord_5 rfl ?_
  refine sn_getI (y := m_X9_splitWord) (pc := 6) ca_7 rfl fk_X9_35 (fun _ _ _ => rfl) dX9_splitWord_6 (fun r1 => ?_)
  refine sn_icmp_ge (y := m_X9_splitWord) (pc := 9) (tgt := 45) dX9_splitWord_9 (by decide) (fun _ => ?_) (fun _ => ?_)
  · exact sn_sub rfl (s_X9_splitWord_j45 x0 x1 x2 x3)
  refine sn_aload_n (y := m_X9_splitWord) (pc := 12) dX9_splitWord_12 rfl ?_
  refine sn_getA (y := m_X9_splitWord) (pc := 13) ca_7 rfl fk_X9_11 (fun _ _ _ => rfl) dX9_splitWord_13 (fun r3 => ?_)
  refine sn_iload_n (y := m_X9_splitWord) (pc := 16) dX9_splitWord_16 rfl ?_
  refine sn_invS (y := m_X9_splitWord) (pc := 17) (av := [vA r3, vI x2]) (st := []) dX9_splitWord_17 lk_X9_85 sw_X6_cell rfl rfl rfl ⟨by decide, by decide⟩ (c_X6_cell cx.1 r3 x2) (fun r4 => ?_)
  refine sn_invS (y := m_X9_splitWord) (pc := 20) (av := [vI r4]) (st := []) dX9_splitWord_20 lk_X9_89 sw_X9_isLetter rfl rfl rfl ⟨by decide, by decide⟩ (c_X9_isLetter cx.1 r4) (fun r5 => ?_)
  refine sn_if_eq (y := m_X9_splitWord) (pc := 23) (tgt := 45) dX9_splitWord_23 (by decide) (fun _ => ?_) (fun _ => ?_)
  · exact sn_sub rfl (s_X9_splitWord_j45 x0 x1 x2 x3)
  refine sn_lload_n (y := m_X9_splitWord) (pc := 26) dX9_splitWord_26 rfl ?_
  refine sn_aload_n (y := m_X9_splitWord) (pc := 27) dX9_splitWord_27 rfl ?_
  refine sn_getA (y := m_X9_splitWord) (pc := 28) ca_7 rfl fk_X9_11 (fun _ _ _ => rfl) dX9_splitWord_28 (fun r6 => ?_)
  refine sn_iload_n (y := m_X9_splitWord) (pc := 31) dX9_splitWord_31 rfl ?_
  refine sn_invS (y := m_X9_splitWord) (pc := 32) (av := [vA r6, vI x2]) (st := [vJ x3]) dX9_splitWord_32 lk_X9_85 sw_X6_cell rfl rfl rfl ⟨by decide, by decide⟩ (c_X6_cell cx.1 r6 x2) (fun r7 => ?_)
  refine sn_invS (y := m_X9_splitWord) (pc := 35) (av := [vJ x3, vI r7]) (st := []) dX9_splitWord_35 lk_X9_65 sw_X9_withLetter rfl rfl rfl ⟨by decide, by decide⟩ (c_X9_withLetter cx.1 x3 r7) (fun r8 => ?_)
  refine sn_lstore_n (y := m_X9_splitWord) (pc := 38) dX9_splitWord_38 rfl ?_
  refine sn_iinc (y := m_X9_splitWord) (pc := 39) (v := x2 + 1) dX9_splitWord_39 rfl (by rfl) rfl ?_
  refine sn_goto (y := m_X9_splitWord) (pc := 42) (tgt := 4) dX9_splitWord_42 (by decide) ?_
  exact sn_sub rfl (hk4 (x2 + 1) r8)
set_option maxRecDepth 100000 in
theorem s_X9_splitWord_l4 {cx : CX} (x0 : (Option Nat)) (x1 : Int32) (x2 : Int32) (x3 : Int64) : Sn cx m_X9_splitWord eI 4 [(2, vI x2), (3, vJ x3), (0, vA x0), (1, vI x1)] [] (f_X9_splitWord_l4 x0 x1 x2 x3) :=
  sn_lq2 (L := fun x2 x3 => [(2, vI x2), (3, vJ x3), (0, vA x0), (1, vI x1)]) (fun k hk x2 x3 => s_X9_splitWord_b4 x0 x1 hk x2 x3) fuel x2 x3
def f_X9_splitWord (p0 : (Option Nat)) (p1 : Int32) : Mo Int32 :=
  f_X9_splitWord_l4 p0 p1 p1 (0 : Int64)
set_option maxRecDepth 100000 in
theorem s_X9_splitWord {cx : CX} (p0 : (Option Nat)) (p1 : Int32) : Sn cx m_X9_splitWord eI 0 [(0, vA p0), (1, vI p1)] [] (f_X9_splitWord p0 p1) := by
  refine sn_iload_n (y := m_X9_splitWord) (pc := 0) dX9_splitWord_0 rfl ?_
  refine sn_istore_n (y := m_X9_splitWord) (pc := 1) dX9_splitWord_1 rfl ?_
  refine sn_lconst (y := m_X9_splitWord) (pc := 2) dX9_splitWord_2 kc_lconst_0 ?_
  refine sn_lstore_n (y := m_X9_splitWord) (pc := 3) dX9_splitWord_3 rfl ?_
  exact sn_sub rfl (s_X9_splitWord_l4 p0 p1 p1 (0 : Int64))
set_option maxRecDepth 100000 in
theorem c_X9_splitWord (g : Gl) (p0 : (Option Nat)) (p1 : Int32) : Cn g m_X9_splitWord eI [vA p0, vI p1] (mCk 7 p0 (f_X9_splitWord p0 p1)) := cn_of_sn (by decide +kernel) rfl (fun r => ⟨r, rfl⟩) rfl (fun _ _ => sn_ck (s_X9_splitWord p0 p1))
/-! X9_isDigit -/
def f_X9_isDigit (p0 : Int32) : Mo Int32 :=
  (if p0 < (48 : Int32) then mRt (0 : Int32) else (if p0 > (57 : Int32) then mRt (0 : Int32) else mRt (1 : Int32)))
set_option maxRecDepth 100000 in
theorem s_X9_isDigit {cx : CX} (p0 : Int32) : Sn cx m_X9_isDigit eI 0 [(0, vI p0)] [] (f_X9_isDigit p0) := by
  refine sn_iload_n (y := m_X9_isDigit) (pc := 0) dX9_isDigit_0 rfl ?_
  refine sn_bipush (y := m_X9_isDigit) (pc := 1) dX9_isDigit_1 kc_bipush_48 ?_
  refine sn_icmp_lt (y := m_X9_isDigit) (pc := 3) (tgt := 16) dX9_isDigit_3 (by decide) (fun _ => ?_) (fun _ => ?_)
  · refine sn_iconst (y := m_X9_isDigit) (pc := 16) dX9_isDigit_16 kc_iconst_0 ?_
    exact sn_zreturnC (by decide) rfl dX9_isDigit_17
  refine sn_iload_n (y := m_X9_isDigit) (pc := 6) dX9_isDigit_6 rfl ?_
  refine sn_bipush (y := m_X9_isDigit) (pc := 7) dX9_isDigit_7 kc_bipush_57 ?_
  refine sn_icmp_gt (y := m_X9_isDigit) (pc := 9) (tgt := 16) dX9_isDigit_9 (by decide) (fun _ => ?_) (fun _ => ?_)
  · refine sn_iconst (y := m_X9_isDigit) (pc := 16) dX9_isDigit_16 kc_iconst_0 ?_
    exact sn_zreturnC (by decide) rfl dX9_isDigit_17
  refine sn_iconst (y := m_X9_isDigit) (pc := 12) dX9_isDigit_12 kc_iconst_1 ?_
  refine sn_goto (y := m_X9_isDigit) (pc := 13) (tgt := 17) dX9_isDigit_13 (by decide) ?_
  exact sn_zreturnC (by decide) rfl dX9_isDigit_17
set_option maxRecDepth 100000 in
theorem c_X9_isDigit (g : Gl) (p0 : Int32) : Cn g m_X9_isDigit eI [vI p0] (f_X9_isDigit p0) := cn_of_sn (by decide +kernel) rfl (fun r => ⟨r, rfl⟩) rfl (fun _ _ => s_X9_isDigit p0)
/-! X9_splitWhole -/
def f_X9_splitWhole_j49 (x0 : (Option Nat)) (x1 : Int32) (x2 : Int32) (x3 : Int32) : Mo Int32 :=
  (if (x2 - x1) ≤ (3 : Int32) then mBd (mCk 7 x0 (f_X9_keepToken x0 (2 : Int32) (x3.toInt64) x1)) (fun _ => mRt x2) else mBd (mCk 7 x0 (f_X9_keepToken x0 (1 : Int32) (x3.toInt64) x1)) (fun _ => mRt x2))
set_option maxRecDepth 100000 in
theorem s_X9_splitWhole_j49 {cx : CX} (x0 : (Option Nat)) (x1 : Int32) (x2 : Int32) (x3 : Int32) : Sn cx m_X9_splitWhole eI 49 [(0, vA x0), (1, vI x1), (2, vI x2), (3, vI x3)] [] (f_X9_splitWhole_j49 x0 x1 x2 x3) := by
  refine sn_aload_n (y := m_X9_splitWhole) (pc := 49) dX9_splitWhole_49 rfl ?_
  refine sn_iload_n (y := m_X9_splitWhole) (pc := 50) dX9_splitWhole_50 rfl ?_
  refine sn_iload_n (y := m_X9_splitWhole) (pc := 51) dX9_splitWhole_51 rfl ?_
  refine sn_isub (y := m_X9_splitWhole) (pc := 52) dX9_splitWhole_52 ?_
  refine sn_iconst (y := m_X9_splitWhole) (pc := 53) dX9_splitWhole_53 kc_iconst_3 ?_
  refine sn_icmp_le (y := m_X9_splitWhole) (pc := 54) (tgt := 61) dX9_splitWhole_54 (by decide) (fun _ => ?_) (fun _ => ?_)
  · refine sn_iconst (y := m_X9_splitWhole) (pc := 61) dX9_splitWhole_61 kc_iconst_2 ?_
    refine sn_iload_n (y := m_X9_splitWhole) (pc := 62) dX9_splitWhole_62 rfl ?_
    refine sn_i2l (y := m_X9_splitWhole) (pc := 63) dX9_splitWhole_63 ?_
    refine sn_iload_n (y := m_X9_splitWhole) (pc := 64) dX9_splitWhole_64 rfl ?_
    refine sn_invV (y := m_X9_splitWhole) (pc := 65) ca_7 (av := [vI (2 : Int32), vJ (x3.toInt64), vI x1]) (o := x0) (st := []) dX9_splitWhole_65 lk_X9_108 im_X9_keepToken se_X9_keepToken rfl rfl rfl rfl ⟨by decide, by decide⟩ (c_X9_keepToken cx.1 x0 (2 : Int32) (x3.toInt64) x1) (fun _ => ?_)
    refine sn_iload_n (y := m_X9_splitWhole) (pc := 68) dX9_splitWhole_68 rfl ?_
    exact sn_ireturn rfl dX9_splitWhole_69
  refine sn_iconst (y := m_X9_splitWhole) (pc := 57) dX9_splitWhole_57 kc_iconst_1 ?_
  refine sn_goto (y := m_X9_splitWhole) (pc := 58) (tgt := 62) dX9_splitWhole_58 (by decide) ?_
  refine sn_iload_n (y := m_X9_splitWhole) (pc := 62) dX9_splitWhole_62 rfl ?_
  refine sn_i2l (y := m_X9_splitWhole) (pc := 63) dX9_splitWhole_63 ?_
  refine sn_iload_n (y := m_X9_splitWhole) (pc := 64) dX9_splitWhole_64 rfl ?_
  refine sn_invV (y := m_X9_splitWhole) (pc := 65) ca_7 (av := [vI (1 : Int32), vJ (x3.toInt64), vI x1]) (o := x0) (st := []) dX9_splitWhole_65 lk_X9_108 im_X9_keepToken se_X9_keepToken rfl rfl rfl rfl ⟨by decide, by decide⟩ (c_X9_keepToken cx.1 x0 (1 : Int32) (x3.toInt64) x1) (fun _ => ?_)
  refine sn_iload_n (y := m_X9_splitWhole) (pc := 68) dX9_splitWhole_68 rfl ?_
  exact sn_ireturn rfl dX9_splitWhole_69
def f_X9_splitWhole_b4 (x0 : (Option Nat)) (x1 : Int32) (k4 : Int32 → Int32 → Mo Int32) (x2 : Int32) (x3 : Int32) : Mo Int32 :=
  mBd (mGetI 7 7 x0) (fun r1 => (if x2 ≥ r1 then f_X9_splitWhole_j49 x0 x1 x2 x3 else mBd (mGetA 7 0 x0) (fun r2 => mBd (f_X6_cell r2 x2) (fun r3 => mBd (f_X9_isDigit r3) (fun r4 => (if r4 = 0 then f_X9_splitWhole_j49 x0 x1 x2 x3 else mBd (mGetA 7 0 x0) (fun r5 => mBd (f_X6_cell r5 x2) (fun r6 => mNm ((x3 * (10 : Int32)) + (r6 - (48 : Int32))) (fun n7 => k4 (x2 + 1) n7)))))))))
def f_X9_splitWhole_l4 (x0 : (Option Nat)) (x1 : Int32) : Int32 → Int32 → Mo Int32 := lq2 (f_X9_splitWhole_b4 x0 x1) fuel
set_option maxRecDepth 100000 in
theorem s_X9_splitWhole_b4 {cx : CX} (x0 : (Option Nat)) (x1 : Int32) {k4 : Int32 → Int32 → Mo Int32} (hk4 : ∀ (z2 : Int32) (z3 : Int32), Sn cx m_X9_splitWhole eI 4 [(2, vI z2), (3, vI z3), (0, vA x0), (1, vI x1)] [] (k4 z2 z3)) (x2 : Int32) (x3 : Int32) : Sn cx m_X9_splitWhole eI 4 [(2, vI x2), (3, vI x3), (0, vA x0), (1, vI x1)] [] (f_X9_splitWhole_b4 x0 x1 k4 x2 x3) := by
  refine sn_iload_n (y := m_X9_splitWhole) (pc := 4) dX9_splitWhole_4 rfl ?_
  refine sn_aload_n (y := m_X9_splitWhole) (pc := 5) dX9_splitWhole_5 rfl ?_
  refine sn_getI (y := m_X9_splitWhole) (pc := 6) ca_7 rfl fk_X9_35 (fun _ _ _ => rfl) dX9_splitWhole_6 (fun r1 => ?_)
  refine sn_icmp_ge (y := m_X9_splitWhole) (pc := 9) (tgt := 49) dX9_splitWhole_9 (by decide) (fun _ => ?_) (fun _ => ?_)
  · exact sn_sub rfl (s_X9_splitWhole_j49 x0 x1 x2 x3)
  refine sn_aload_n (y := m_X9_splitWhole) (pc := 12) dX9_splitWhole_12 rfl ?_
  refine sn_getA (y := m_X9_splitWhole) (pc := 13) ca_7 rfl fk_X9_11 (fun _ _ _ => rfl) dX9_splitWhole_13 (fun r2 => ?_)
  refine sn_iload_n (y := m_X9_splitWhole) (pc := 16) dX9_splitWhole_16 rfl ?_
  refine sn_invS (y := m_X9_splitWhole) (pc := 17) (av := [vA r2, vI x2]) (st := []) dX9_splitWhole_17 lk_X9_85 sw_X6_cell rfl rfl rfl ⟨by decide, by decide⟩ (c_X6_cell cx.1 r2 x2) (fun r3 => ?_)
  refine sn_invS (y := m_X9_splitWhole) (pc := 20) (av := [vI r3]) (st := []) dX9_splitWhole_20 lk_X9_97 sw_X9_isDigit rfl rfl rfl ⟨by decide, by decide⟩ (c_X9_isDigit cx.1 r3) (fun r4 => ?_)
  refine sn_if_eq (y := m_X9_splitWhole) (pc := 23) (tgt := 49) dX9_splitWhole_23 (by decide) (fun _ => ?_) (fun _ => ?_)
  · exact sn_sub rfl (s_X9_splitWhole_j49 x0 x1 x2 x3)
  refine sn_iload_n (y := m_X9_splitWhole) (pc := 26) dX9_splitWhole_26 rfl ?_
  refine sn_bipush (y := m_X9_splitWhole) (pc := 27) dX9_splitWhole_27 kc_bipush_10 ?_
  refine sn_imul (y := m_X9_splitWhole) (pc := 29) dX9_splitWhole_29 ?_
  refine sn_aload_n (y := m_X9_splitWhole) (pc := 30) dX9_splitWhole_30 rfl ?_
  refine sn_getA (y := m_X9_splitWhole) (pc := 31) ca_7 rfl fk_X9_11 (fun _ _ _ => rfl) dX9_splitWhole_31 (fun r5 => ?_)
  refine sn_iload_n (y := m_X9_splitWhole) (pc := 34) dX9_splitWhole_34 rfl ?_
  refine sn_invS (y := m_X9_splitWhole) (pc := 35) (av := [vA r5, vI x2]) (st := [vI (x3 * (10 : Int32))]) dX9_splitWhole_35 lk_X9_85 sw_X6_cell rfl rfl rfl ⟨by decide, by decide⟩ (c_X6_cell cx.1 r5 x2) (fun r6 => ?_)
  refine sn_bipush (y := m_X9_splitWhole) (pc := 38) dX9_splitWhole_38 kc_bipush_48 ?_
  refine sn_isub (y := m_X9_splitWhole) (pc := 40) dX9_splitWhole_40 ?_
  refine sn_iadd (y := m_X9_splitWhole) (pc := 41) dX9_splitWhole_41 ?_
  refine sn_istore_nM (y := m_X9_splitWhole) (pc := 42) dX9_splitWhole_42 rfl (fun n7 => ?_)
  refine sn_iinc (y := m_X9_splitWhole) (pc := 43) (v := x2 + 1) dX9_splitWhole_43 rfl (by rfl) rfl ?_
  refine sn_goto (y := m_X9_splitWhole) (pc := 46) (tgt := 4) dX9_splitWhole_46 (by decide) ?_
  exact sn_sub rfl (hk4 (x2 + 1) n7)
set_option maxRecDepth 100000 in
theorem s_X9_splitWhole_l4 {cx : CX} (x0 : (Option Nat)) (x1 : Int32) (x2 : Int32) (x3 : Int32) : Sn cx m_X9_splitWhole eI 4 [(2, vI x2), (3, vI x3), (0, vA x0), (1, vI x1)] [] (f_X9_splitWhole_l4 x0 x1 x2 x3) :=
  sn_lq2 (L := fun x2 x3 => [(2, vI x2), (3, vI x3), (0, vA x0), (1, vI x1)]) (fun k hk x2 x3 => s_X9_splitWhole_b4 x0 x1 hk x2 x3) fuel x2 x3
def f_X9_splitWhole (p0 : (Option Nat)) (p1 : Int32) : Mo Int32 :=
  f_X9_splitWhole_l4 p0 p1 p1 (0 : Int32)
set_option maxRecDepth 100000 in
theorem s_X9_splitWhole {cx : CX} (p0 : (Option Nat)) (p1 : Int32) : Sn cx m_X9_splitWhole eI 0 [(0, vA p0), (1, vI p1)] [] (f_X9_splitWhole p0 p1) := by
  refine sn_iload_n (y := m_X9_splitWhole) (pc := 0) dX9_splitWhole_0 rfl ?_
  refine sn_istore_n (y := m_X9_splitWhole) (pc := 1) dX9_splitWhole_1 rfl ?_
  refine sn_iconst (y := m_X9_splitWhole) (pc := 2) dX9_splitWhole_2 kc_iconst_0 ?_
  refine sn_istore_n (y := m_X9_splitWhole) (pc := 3) dX9_splitWhole_3 rfl ?_
  exact sn_sub rfl (s_X9_splitWhole_l4 p0 p1 p1 (0 : Int32))
set_option maxRecDepth 100000 in
theorem c_X9_splitWhole (g : Gl) (p0 : (Option Nat)) (p1 : Int32) : Cn g m_X9_splitWhole eI [vA p0, vI p1] (mCk 7 p0 (f_X9_splitWhole p0 p1)) := cn_of_sn (by decide +kernel) rfl (fun r => ⟨r, rfl⟩) rfl (fun _ _ => sn_ck (s_X9_splitWhole p0 p1))
/-! J1_canEncode_9a6ad -/
def f_J1_canEncode_9a6ad (p0 : Int32) : Mo Int32 :=
  (if p0 < 0 then mRt (0 : Int32) else (if p0 > (255 : Int32) then mRt (0 : Int32) else mRt (1 : Int32)))
set_option maxRecDepth 100000 in
theorem s_J1_canEncode_9a6ad {cx : CX} (p0 : Int32) : Sn cx m_J1_canEncode_9a6ad eI 0 [(0, vI p0)] [] (f_J1_canEncode_9a6ad p0) := by
  refine sn_iload_n (y := m_J1_canEncode_9a6ad) (pc := 0) dJ1_canEncode_9a6ad_0 rfl ?_
  refine sn_if_lt (y := m_J1_canEncode_9a6ad) (pc := 1) (tgt := 15) dJ1_canEncode_9a6ad_1 (by decide) (fun _ => ?_) (fun _ => ?_)
  · refine sn_iconst (y := m_J1_canEncode_9a6ad) (pc := 15) dJ1_canEncode_9a6ad_15 kc_iconst_0 ?_
    exact sn_zreturnC (by decide) rfl dJ1_canEncode_9a6ad_16
  refine sn_iload_n (y := m_J1_canEncode_9a6ad) (pc := 4) dJ1_canEncode_9a6ad_4 rfl ?_
  refine sn_sipush (y := m_J1_canEncode_9a6ad) (pc := 5) dJ1_canEncode_9a6ad_5 kc_sipush_255 ?_
  refine sn_icmp_gt (y := m_J1_canEncode_9a6ad) (pc := 8) (tgt := 15) dJ1_canEncode_9a6ad_8 (by decide) (fun _ => ?_) (fun _ => ?_)
  · refine sn_iconst (y := m_J1_canEncode_9a6ad) (pc := 15) dJ1_canEncode_9a6ad_15 kc_iconst_0 ?_
    exact sn_zreturnC (by decide) rfl dJ1_canEncode_9a6ad_16
  refine sn_iconst (y := m_J1_canEncode_9a6ad) (pc := 11) dJ1_canEncode_9a6ad_11 kc_iconst_1 ?_
  refine sn_goto (y := m_J1_canEncode_9a6ad) (pc := 12) (tgt := 16) dJ1_canEncode_9a6ad_12 (by decide) ?_
  exact sn_zreturnC (by decide) rfl dJ1_canEncode_9a6ad_16
set_option maxRecDepth 100000 in
theorem c_J1_canEncode_9a6ad (g : Gl) (p0 : Int32) : Cn g m_J1_canEncode_9a6ad eI [vI p0] (f_J1_canEncode_9a6ad p0) := cn_of_sn (by decide +kernel) rfl (fun r => ⟨r, rfl⟩) rfl (fun _ _ => s_J1_canEncode_9a6ad p0)
/-! J9_max_7cf53 -/
def f_J9_max_7cf53 (p0 : Int32) (p1 : Int32) : Mo Int32 :=
  (if p0 < p1 then mRt p1 else mRt p0)
set_option maxRecDepth 100000 in
theorem s_J9_max_7cf53 {cx : CX} (p0 : Int32) (p1 : Int32) : Sn cx m_J9_max_7cf53 eI 0 [(0, vI p0), (1, vI p1)] [] (f_J9_max_7cf53 p0 p1) := by
  refine sn_iload_n (y := m_J9_max_7cf53) (pc := 0) dJ9_max_7cf53_0 rfl ?_
  refine sn_iload_n (y := m_J9_max_7cf53) (pc := 1) dJ9_max_7cf53_1 rfl ?_
  refine sn_icmp_lt (y := m_J9_max_7cf53) (pc := 2) (tgt := 9) dJ9_max_7cf53_2 (by decide) (fun _ => ?_) (fun _ => ?_)
  · refine sn_iload_n (y := m_J9_max_7cf53) (pc := 9) dJ9_max_7cf53_9 rfl ?_
    exact sn_ireturn rfl dJ9_max_7cf53_10
  refine sn_iload_n (y := m_J9_max_7cf53) (pc := 5) dJ9_max_7cf53_5 rfl ?_
  refine sn_goto (y := m_J9_max_7cf53) (pc := 6) (tgt := 10) dJ9_max_7cf53_6 (by decide) ?_
  exact sn_ireturn rfl dJ9_max_7cf53_10
set_option maxRecDepth 100000 in
theorem c_J9_max_7cf53 (g : Gl) (p0 : Int32) (p1 : Int32) : Cn g m_J9_max_7cf53 eI [vI p0, vI p1] (f_J9_max_7cf53 p0 p1) := cn_of_sn (by decide +kernel) rfl (fun r => ⟨r, rfl⟩) rfl (fun _ _ => s_J9_max_7cf53 p0 p1)
/-! J1_indexOfChar_4cfef -/
def f_J1_indexOfChar_4cfef_b7 (x0 : (Option Nat)) (x3 : Int32) (x4 : Int32) (k7 : Int32 → Mo Int32) (x5 : Int32) : Mo Int32 :=
  (if x5 ≥ x3 then mRt (-1 : Int32) else mBd (mLdS x0 x5) (fun r2 => (if ¬ r2 = x4 then k7 (x5 + 1) else mRt x5)))
def f_J1_indexOfChar_4cfef_l7 (x0 : (Option Nat)) (x3 : Int32) (x4 : Int32) : Int32 → Mo Int32 := lq1 (f_J1_indexOfChar_4cfef_b7 x0 x3 x4) fuel
set_option maxRecDepth 100000 in
theorem s_J1_indexOfChar_4cfef_b7 {cx : CX} (x0 : (Option Nat)) (x3 : Int32) (x4 : Int32) {k7 : Int32 → Mo Int32} (hk7 : ∀ (z5 : Int32), Sn cx m_J1_indexOfChar_4cfef eI 7 [(5, vI z5), (0, vA x0), (3, vI x3), (4, vI x4)] [] (k7 z5)) (x5 : Int32) : Sn cx m_J1_indexOfChar_4cfef eI 7 [(5, vI x5), (0, vA x0), (3, vI x3), (4, vI x4)] [] (f_J1_indexOfChar_4cfef_b7 x0 x3 x4 k7 x5) := by
  refine sn_iload (y := m_J1_indexOfChar_4cfef) (pc := 7) dJ1_indexOfChar_4cfef_7 rfl ?_
  refine sn_iload_n (y := m_J1_indexOfChar_4cfef) (pc := 9) dJ1_indexOfChar_4cfef_9 rfl ?_
  refine sn_icmp_ge (y := m_J1_indexOfChar_4cfef) (pc := 10) (tgt := 31) dJ1_indexOfChar_4cfef_10 (by decide) (fun _ => ?_) (fun _ => ?_)
  · refine sn_iconst (y := m_J1_indexOfChar_4cfef) (pc := 31) dJ1_indexOfChar_4cfef_31 kc_iconst_m1 ?_
    exact sn_ireturn rfl dJ1_indexOfChar_4cfef_32
  refine sn_aload_n (y := m_J1_indexOfChar_4cfef) (pc := 13) dJ1_indexOfChar_4cfef_13 rfl ?_
  refine sn_iload (y := m_J1_indexOfChar_4cfef) (pc := 14) dJ1_indexOfChar_4cfef_14 rfl ?_
  refine sn_baloadS (y := m_J1_indexOfChar_4cfef) (pc := 16) dJ1_indexOfChar_4cfef_16 (fun r2 => ?_)
  refine sn_iload (y := m_J1_indexOfChar_4cfef) (pc := 17) dJ1_indexOfChar_4cfef_17 rfl ?_
  refine sn_icmp_ne (y := m_J1_indexOfChar_4cfef) (pc := 19) (tgt := 25) dJ1_indexOfChar_4cfef_19 (by decide) (fun _ => ?_) (fun _ => ?_)
  · refine sn_iinc (y := m_J1_indexOfChar_4cfef) (pc := 25) (v := x5 + 1) dJ1_indexOfChar_4cfef_25 rfl (by rfl) rfl ?_
    refine sn_goto (y := m_J1_indexOfChar_4cfef) (pc := 28) (tgt := 7) dJ1_indexOfChar_4cfef_28 (by decide) ?_
    exact sn_sub rfl (hk7 (x5 + 1))
  refine sn_iload (y := m_J1_indexOfChar_4cfef) (pc := 22) dJ1_indexOfChar_4cfef_22 rfl ?_
  exact sn_ireturn rfl dJ1_indexOfChar_4cfef_24
set_option maxRecDepth 100000 in
theorem s_J1_indexOfChar_4cfef_l7 {cx : CX} (x0 : (Option Nat)) (x3 : Int32) (x4 : Int32) (x5 : Int32) : Sn cx m_J1_indexOfChar_4cfef eI 7 [(5, vI x5), (0, vA x0), (3, vI x3), (4, vI x4)] [] (f_J1_indexOfChar_4cfef_l7 x0 x3 x4 x5) :=
  sn_lq1 (L := fun x5 => [(5, vI x5), (0, vA x0), (3, vI x3), (4, vI x4)]) (fun k hk x5 => s_J1_indexOfChar_4cfef_b7 x0 x3 x4 hk x5) fuel x5
def f_J1_indexOfChar_4cfef (p0 : (Option Nat)) (p1 : Int32) (p2 : Int32) (p3 : Int32) : Mo Int32 :=
  mNm (p1.toInt8.toInt32) (fun n1 => f_J1_indexOfChar_4cfef_l7 p0 p3 n1 p2)
set_option maxRecDepth 100000 in
theorem s_J1_indexOfChar_4cfef {cx : CX} (p0 : (Option Nat)) (p1 : Int32) (p2 : Int32) (p3 : Int32) : Sn cx m_J1_indexOfChar_4cfef eI 0 [(0, vA p0), (1, vI p1), (2, vI p2), (3, vI p3)] [] (f_J1_indexOfChar_4cfef p0 p1 p2 p3) := by
  refine sn_iload_n (y := m_J1_indexOfChar_4cfef) (pc := 0) dJ1_indexOfChar_4cfef_0 rfl ?_
  refine sn_i2b (y := m_J1_indexOfChar_4cfef) (pc := 1) dJ1_indexOfChar_4cfef_1 ?_
  refine sn_istoreM (y := m_J1_indexOfChar_4cfef) (pc := 2) dJ1_indexOfChar_4cfef_2 rfl (fun n1 => ?_)
  refine sn_iload_n (y := m_J1_indexOfChar_4cfef) (pc := 4) dJ1_indexOfChar_4cfef_4 rfl ?_
  refine sn_istore (y := m_J1_indexOfChar_4cfef) (pc := 5) dJ1_indexOfChar_4cfef_5 rfl ?_
  exact sn_sub rfl (s_J1_indexOfChar_4cfef_l7 p0 p3 n1 p2)
set_option maxRecDepth 100000 in
theorem c_J1_indexOfChar_4cfef (g : Gl) (p0 : (Option Nat)) (p1 : Int32) (p2 : Int32) (p3 : Int32) : Cn g m_J1_indexOfChar_4cfef eI [vA p0, vI p1, vI p2, vI p3] (f_J1_indexOfChar_4cfef p0 p1 p2 p3) := cn_of_sn (by decide +kernel) rfl (fun r => ⟨r, rfl⟩) rfl (fun _ _ => s_J1_indexOfChar_4cfef p0 p1 p2 p3)
/-! J1_indexOf_4cfef -/
def f_J1_indexOf_4cfef (p0 : (Option Nat)) (p1 : Int32) (p2 : Int32) (p3 : Int32) : Mo Int32 :=
  mBd (f_J1_canEncode_9a6ad p1) (fun r1 => (if ¬ r1 = 0 then mBd (f_J9_max_7cf53 p2 (0 : Int32)) (fun r2 => mBd (mLenS p0) (fun r3 => mBd (f_J9_min_7cf53 p3 r3) (fun r4 => (if r2 < r4 then mBd (f_J1_indexOfChar_4cfef p0 p1 r2 r4) (fun r5 => mRt r5) else mRt (-1 : Int32))))) else mRt (-1 : Int32)))
set_option maxRecDepth 100000 in
theorem s_J1_indexOf_4cfef {cx : CX} (p0 : (Option Nat)) (p1 : Int32) (p2 : Int32) (p3 : Int32) : Sn cx m_J1_indexOf_4cfef eI 0 [(0, vA p0), (1, vI p1), (2, vI p2), (3, vI p3)] [] (f_J1_indexOf_4cfef p0 p1 p2 p3) := by
  refine sn_iload_n (y := m_J1_indexOf_4cfef) (pc := 0) dJ1_indexOf_4cfef_0 rfl ?_
  refine sn_invS (y := m_J1_indexOf_4cfef) (pc := 1) (av := [vI p1]) (st := []) dJ1_indexOf_4cfef_1 lk_J1_88 sw_J1_canEncode_9a6ad rfl rfl rfl ⟨by decide, by decide⟩ (c_J1_canEncode_9a6ad cx.1 p1) (fun r1 => ?_)
  refine sn_if_ne (y := m_J1_indexOf_4cfef) (pc := 4) (tgt := 9) dJ1_indexOf_4cfef_4 (by decide) (fun _ => ?_) (fun _ => ?_)
  · refine sn_iload_n (y := m_J1_indexOf_4cfef) (pc := 9) dJ1_indexOf_4cfef_9 rfl ?_
    refine sn_iconst (y := m_J1_indexOf_4cfef) (pc := 10) dJ1_indexOf_4cfef_10 kc_iconst_0 ?_
    refine sn_invS (y := m_J1_indexOf_4cfef) (pc := 11) (av := [vI p2, vI (0 : Int32)]) (st := []) dJ1_indexOf_4cfef_11 lk_J1_92 sw_J9_max_7cf53 rfl rfl rfl ⟨by decide, by decide⟩ (c_J9_max_7cf53 cx.1 p2 (0 : Int32)) (fun r2 => ?_)
    refine sn_istore_n (y := m_J1_indexOf_4cfef) (pc := 14) dJ1_indexOf_4cfef_14 rfl ?_
    refine sn_iload_n (y := m_J1_indexOf_4cfef) (pc := 15) dJ1_indexOf_4cfef_15 rfl ?_
    refine sn_aload_n (y := m_J1_indexOf_4cfef) (pc := 16) dJ1_indexOf_4cfef_16 rfl ?_
    refine sn_alenS (y := m_J1_indexOf_4cfef) (pc := 17) dJ1_indexOf_4cfef_17 (fun r3 => ?_)
    refine sn_invS (y := m_J1_indexOf_4cfef) (pc := 18) (av := [vI p3, vI r3]) (st := []) dJ1_indexOf_4cfef_18 lk_J1_38 sw_J9_min_7cf53 rfl rfl rfl ⟨by decide, by decide⟩ (c_J9_min_7cf53 cx.1 p3 r3) (fun r4 => ?_)
    refine sn_istore_n (y := m_J1_indexOf_4cfef) (pc := 21) dJ1_indexOf_4cfef_21 rfl ?_
    refine sn_iload_n (y := m_J1_indexOf_4cfef) (pc := 22) dJ1_indexOf_4cfef_22 rfl ?_
    refine sn_iload_n (y := m_J1_indexOf_4cfef) (pc := 23) dJ1_indexOf_4cfef_23 rfl ?_
    refine sn_icmp_lt (y := m_J1_indexOf_4cfef) (pc := 24) (tgt := 29) dJ1_indexOf_4cfef_24 (by decide) (fun _ => ?_) (fun _ => ?_)
    · refine sn_aload_n (y := m_J1_indexOf_4cfef) (pc := 29) dJ1_indexOf_4cfef_29 rfl ?_
      refine sn_iload_n (y := m_J1_indexOf_4cfef) (pc := 30) dJ1_indexOf_4cfef_30 rfl ?_
      refine sn_iload_n (y := m_J1_indexOf_4cfef) (pc := 31) dJ1_indexOf_4cfef_31 rfl ?_
      refine sn_iload_n (y := m_J1_indexOf_4cfef) (pc := 32) dJ1_indexOf_4cfef_32 rfl ?_
      refine sn_invS (y := m_J1_indexOf_4cfef) (pc := 33) (av := [vA p0, vI p1, vI r2, vI r4]) (st := []) dJ1_indexOf_4cfef_33 lk_J1_95 sw_J1_indexOfChar_4cfef rfl rfl rfl ⟨by decide, by decide⟩ (c_J1_indexOfChar_4cfef cx.1 p0 p1 r2 r4) (fun r5 => ?_)
      exact sn_ireturn rfl dJ1_indexOf_4cfef_36
    refine sn_iconst (y := m_J1_indexOf_4cfef) (pc := 27) dJ1_indexOf_4cfef_27 kc_iconst_m1 ?_
    exact sn_ireturn rfl dJ1_indexOf_4cfef_28
  refine sn_iconst (y := m_J1_indexOf_4cfef) (pc := 7) dJ1_indexOf_4cfef_7 kc_iconst_m1 ?_
  exact sn_ireturn rfl dJ1_indexOf_4cfef_8
set_option maxRecDepth 100000 in
theorem c_J1_indexOf_4cfef (g : Gl) (p0 : (Option Nat)) (p1 : Int32) (p2 : Int32) (p3 : Int32) : Cn g m_J1_indexOf_4cfef eI [vA p0, vI p1, vI p2, vI p3] (f_J1_indexOf_4cfef p0 p1 p2 p3) := cn_of_sn (by decide +kernel) rfl (fun r => ⟨r, rfl⟩) rfl (fun _ _ => s_J1_indexOf_4cfef p0 p1 p2 p3)
/-! J0_indexOf_7cf53 -/
def f_J0_indexOf_7cf53 (p0 : (Option Nat)) (p1 : Int32) (p2 : Int32) : Mo Int32 :=
  mBd (mCkS p0 (f_J0_isLatin1_aae02 p0)) (fun r1 => (if r1 = 0 then mBd (mStrVal p0) (fun r2 => mBd (mCkS p0 (f_J0_length_8abf5 p0)) (fun r3 => mBad)) else mBd (mStrVal p0) (fun r4 => mBd (mCkS p0 (f_J0_length_8abf5 p0)) (fun r5 => mBd (f_J1_indexOf_4cfef r4 p1 p2 r5) (fun r6 => mRt r6)))))
set_option maxRecDepth 100000 in
theorem s_J0_indexOf_7cf53 {cx : CX} (p0 : (Option Nat)) (p1 : Int32) (p2 : Int32) : Sn cx m_J0_indexOf_7cf53 eI 0 [(0, vA p0), (1, vI p1), (2, vI p2)] [] (f_J0_indexOf_7cf53 p0 p1 p2) := by
  refine sn_aload_n (y := m_J0_indexOf_7cf53) (pc := 0) dJ0_indexOf_7cf53_0 rfl ?_
  refine sn_invStr (y := m_J0_indexOf_7cf53) (pc := 1) (av := []) (o := p0) (st := []) dJ0_indexOf_7cf53_1 lk_J0_492 im_J0_isLatin1_aae02 se_J0_isLatin1_aae02 rfl rfl rfl rfl ⟨by decide, by decide⟩ (c_J0_isLatin1_aae02 cx.1 p0) (fun r1 => ?_)
  refine sn_if_eq (y := m_J0_indexOf_7cf53) (pc := 4) (tgt := 23) dJ0_indexOf_7cf53_4 (by decide) (fun _ => ?_) (fun _ => ?_)
  · refine sn_aload_n (y := m_J0_indexOf_7cf53) (pc := 23) dJ0_indexOf_7cf53_23 rfl ?_
    refine sn_strVal (y := m_J0_indexOf_7cf53) (pc := 24) fs_J0_9 dJ0_indexOf_7cf53_24 (fun r2 => ?_)
    refine sn_iload_n (y := m_J0_indexOf_7cf53) (pc := 27) dJ0_indexOf_7cf53_27 rfl ?_
    refine sn_iload_n (y := m_J0_indexOf_7cf53) (pc := 28) dJ0_indexOf_7cf53_28 rfl ?_
    refine sn_aload_n (y := m_J0_indexOf_7cf53) (pc := 29) dJ0_indexOf_7cf53_29 rfl ?_
    refine sn_invStr (y := m_J0_indexOf_7cf53) (pc := 30) (av := []) (o := p0) (st := [vI p2, vI p1, vA r2]) dJ0_indexOf_7cf53_30 lk_J0_505 im_J0_length_8abf5 se_J0_length_8abf5 rfl rfl rfl rfl ⟨by decide, by decide⟩ (c_J0_length_8abf5 cx.1 p0) (fun r3 => ?_)
    exact sn_bad
  refine sn_aload_n (y := m_J0_indexOf_7cf53) (pc := 7) dJ0_indexOf_7cf53_7 rfl ?_
  refine sn_strVal (y := m_J0_indexOf_7cf53) (pc := 8) fs_J0_9 dJ0_indexOf_7cf53_8 (fun r4 => ?_)
  refine sn_iload_n (y := m_J0_indexOf_7cf53) (pc := 11) dJ0_indexOf_7cf53_11 rfl ?_
  refine sn_iload_n (y := m_J0_indexOf_7cf53) (pc := 12) dJ0_indexOf_7cf53_12 rfl ?_
  refine sn_aload_n (y := m_J0_indexOf_7cf53) (pc := 13) dJ0_indexOf_7cf53_13 rfl ?_
  refine sn_invStr (y := m_J0_indexOf_7cf53) (pc := 14) (av := []) (o := p0) (st := [vI p2, vI p1, vA r4]) dJ0_indexOf_7cf53_14 lk_J0_505 im_J0_length_8abf5 se_J0_length_8abf5 rfl rfl rfl rfl ⟨by decide, by decide⟩ (c_J0_length_8abf5 cx.1 p0) (fun r5 => ?_)
  refine sn_invS (y := m_J0_indexOf_7cf53) (pc := 17) (av := [vA r4, vI p1, vI p2, vI r5]) (st := []) dJ0_indexOf_7cf53_17 lk_J0_637 sw_J1_indexOf_4cfef rfl rfl rfl ⟨by decide, by decide⟩ (c_J1_indexOf_4cfef cx.1 r4 p1 p2 r5) (fun r6 => ?_)
  refine sn_goto (y := m_J0_indexOf_7cf53) (pc := 20) (tgt := 36) dJ0_indexOf_7cf53_20 (by decide) ?_
  exact sn_ireturn rfl dJ0_indexOf_7cf53_36
set_option maxRecDepth 100000 in
theorem c_J0_indexOf_7cf53 (g : Gl) (p0 : (Option Nat)) (p1 : Int32) (p2 : Int32) : Cn g m_J0_indexOf_7cf53 eI [vA p0, vI p1, vI p2] (mCkS p0 (f_J0_indexOf_7cf53 p0 p1 p2)) := cn_of_sn (by decide +kernel) rfl (fun r => ⟨r, rfl⟩) rfl (fun _ _ => sn_ckS (s_J0_indexOf_7cf53 p0 p1 p2))
/-! J0_indexOf_0f7a4 -/
def f_J0_indexOf_0f7a4 (p0 : (Option Nat)) (p1 : Int32) : Mo Int32 :=
  mBd (mCkS p0 (f_J0_indexOf_7cf53 p0 p1 (0 : Int32))) (fun r1 => mRt r1)
set_option maxRecDepth 100000 in
theorem s_J0_indexOf_0f7a4 {cx : CX} (p0 : (Option Nat)) (p1 : Int32) : Sn cx m_J0_indexOf_0f7a4 eI 0 [(0, vA p0), (1, vI p1)] [] (f_J0_indexOf_0f7a4 p0 p1) := by
  refine sn_aload_n (y := m_J0_indexOf_0f7a4) (pc := 0) dJ0_indexOf_0f7a4_0 rfl ?_
  refine sn_iload_n (y := m_J0_indexOf_0f7a4) (pc := 1) dJ0_indexOf_0f7a4_1 rfl ?_
  refine sn_iconst (y := m_J0_indexOf_0f7a4) (pc := 2) dJ0_indexOf_0f7a4_2 kc_iconst_0 ?_
  refine sn_invStr (y := m_J0_indexOf_0f7a4) (pc := 3) (av := [vI p1, vI (0 : Int32)]) (o := p0) (st := []) dJ0_indexOf_0f7a4_3 lk_J0_633 im_J0_indexOf_7cf53 se_J0_indexOf_7cf53 rfl rfl rfl rfl ⟨by decide, by decide⟩ (c_J0_indexOf_7cf53 cx.1 p0 p1 (0 : Int32)) (fun r1 => ?_)
  exact sn_ireturn rfl dJ0_indexOf_0f7a4_6
set_option maxRecDepth 100000 in
theorem c_J0_indexOf_0f7a4 (g : Gl) (p0 : (Option Nat)) (p1 : Int32) : Cn g m_J0_indexOf_0f7a4 eI [vA p0, vI p1] (mCkS p0 (f_J0_indexOf_0f7a4 p0 p1)) := cn_of_sn (by decide +kernel) rfl (fun r => ⟨r, rfl⟩) rfl (fun _ _ => sn_ckS (s_J0_indexOf_0f7a4 p0 p1))
/-! X9_step -/
def f_X9_step_j76 (x0 : (Option Nat)) (x1 : Int32) (s0 : Int32) (s1 : (Option Nat)) : Mo Unit :=
  mBd (mPutI 7 9 s1 s0) (fun _ => (if x1 = 0 then mBd (mPutJ 7 10 x0 (0 : Int64)) (fun _ => mRt ()) else mBd (mGetA 7 3 x0) (fun r3 => mBd (mGetI 7 8 x0) (fun r4 => mBd (mLdJ r3 r4) (fun r5 => mBd (mPutJ 7 10 x0 r5) (fun _ => mRt ()))))))
set_option maxRecDepth 100000 in
theorem s_X9_step_j76 {cx : CX} (x0 : (Option Nat)) (x1 : Int32) (s0 : Int32) (s1 : (Option Nat)) : Sn cx m_X9_step eV 76 [(0, vA x0), (1, vI x1)] [vI s0, vA s1] (f_X9_step_j76 x0 x1 s0 s1) := by
  refine sn_putI (y := m_X9_step) (pc := 76) ca_7 rfl fk_X9_41 (Or.inl rfl) rfl dX9_step_76 ?_
  refine sn_aload_n (y := m_X9_step) (pc := 79) dX9_step_79 rfl ?_
  refine sn_iload_n (y := m_X9_step) (pc := 80) dX9_step_80 rfl ?_
  refine sn_if_eq (y := m_X9_step) (pc := 81) (tgt := 96) dX9_step_81 (by decide) (fun _ => ?_) (fun _ => ?_)
  · refine sn_lconst (y := m_X9_step) (pc := 96) dX9_step_96 kc_lconst_0 ?_
    refine sn_putJ (y := m_X9_step) (pc := 97) ca_7 rfl fk_X9_44 (Or.inl rfl) rfl dX9_step_97 ?_
    exact sn_return rfl dX9_step_100
  refine sn_aload_n (y := m_X9_step) (pc := 84) dX9_step_84 rfl ?_
  refine sn_getA (y := m_X9_step) (pc := 85) ca_7 rfl fk_X9_22 (fun _ _ _ => rfl) dX9_step_85 (fun r3 => ?_)
  refine sn_aload_n (y := m_X9_step) (pc := 88) dX9_step_88 rfl ?_
  refine sn_getI (y := m_X9_step) (pc := 89) ca_7 rfl fk_X9_38 (fun _ _ _ => rfl) dX9_step_89 (fun r4 => ?_)
  refine sn_laload (y := m_X9_step) (pc := 92) dX9_step_92 (fun r5 => ?_)
  refine sn_goto (y := m_X9_step) (pc := 93) (tgt := 97) dX9_step_93 (by decide) ?_
  refine sn_putJ (y := m_X9_step) (pc := 97) ca_7 rfl fk_X9_44 (Or.inl rfl) rfl dX9_step_97 ?_
  exact sn_return rfl dX9_step_100
def f_X9_step_j57 (x0 : (Option Nat)) (s0 : Int32) : Mo Unit :=
  (if s0 = 0 then f_X9_step_j76 x0 s0 (0 : Int32) x0 else mBd (mGetA 7 2 x0) (fun r6 => mBd (mGetI 7 8 x0) (fun r7 => mBd (mLdI 1 r6 r7) (fun r8 => f_X9_step_j76 x0 s0 r8 x0))))
set_option maxRecDepth 100000 in
theorem s_X9_step_j57 {cx : CX} (x0 : (Option Nat)) (s0 : Int32) : Sn cx m_X9_step eV 57 [(0, vA x0)] [vI s0] (f_X9_step_j57 x0 s0) := by
  refine sn_istore_n (y := m_X9_step) (pc := 57) dX9_step_57 rfl ?_
  refine sn_aload_n (y := m_X9_step) (pc := 58) dX9_step_58 rfl ?_
  refine sn_iload_n (y := m_X9_step) (pc := 59) dX9_step_59 rfl ?_
  refine sn_if_eq (y := m_X9_step) (pc := 60) (tgt := 75) dX9_step_60 (by decide) (fun _ => ?_) (fun _ => ?_)
  · refine sn_iconst (y := m_X9_step) (pc := 75) dX9_step_75 kc_iconst_0 ?_
    exact sn_sub rfl (s_X9_step_j76 x0 s0 (0 : Int32) x0)
  refine sn_aload_n (y := m_X9_step) (pc := 63) dX9_step_63 rfl ?_
  refine sn_getA (y := m_X9_step) (pc := 64) ca_7 rfl fk_X9_19 (fun _ _ _ => rfl) dX9_step_64 (fun r6 => ?_)
  refine sn_aload_n (y := m_X9_step) (pc := 67) dX9_step_67 rfl ?_
  refine sn_getI (y := m_X9_step) (pc := 68) ca_7 rfl fk_X9_38 (fun _ _ _ => rfl) dX9_step_68 (fun r7 => ?_)
  refine sn_iaload (y := m_X9_step) (pc := 71) dX9_step_71 (fun r8 => ?_)
  refine sn_goto (y := m_X9_step) (pc := 72) (tgt := 76) dX9_step_72 (by decide) ?_
  exact sn_sub rfl (s_X9_step_j76 x0 s0 r8 x0)
def f_X9_step_j56 (x0 : (Option Nat)) : Mo Unit :=
  f_X9_step_j57 x0 (0 : Int32)
set_option maxRecDepth 100000 in
theorem s_X9_step_j56 {cx : CX} (x0 : (Option Nat)) : Sn cx m_X9_step eV 56 [(0, vA x0)] [] (f_X9_step_j56 x0) := by
  refine sn_iconst (y := m_X9_step) (pc := 56) dX9_step_56 kc_iconst_0 ?_
  exact sn_sub rfl (s_X9_step_j57 x0 (0 : Int32))
def f_X9_step (p0 : (Option Nat)) : Mo Unit :=
  mBd (mGetI 7 8 p0) (fun r1 => mBd (mPutI 7 8 p0 (r1 + (1 : Int32))) (fun _ => mBd (mGetI 7 8 p0) (fun r2 => (if r2 < 0 then f_X9_step_j56 p0 else mBd (mGetI 7 8 p0) (fun r9 => mBd (mGetI 7 6 p0) (fun r10 => (if r9 ≥ r10 then f_X9_step_j56 p0 else mBd (mGetI 7 8 p0) (fun r11 => mBd (mGetA 7 2 p0) (fun r12 => mBd (mLen r12) (fun r13 => (if r11 ≥ r13 then f_X9_step_j56 p0 else mBd (mGetI 7 8 p0) (fun r14 => mBd (mGetA 7 3 p0) (fun r15 => mBd (mLen r15) (fun r16 => (if r14 ≥ r16 then f_X9_step_j56 p0 else f_X9_step_j57 p0 (1 : Int32))))))))))))))))
set_option maxRecDepth 100000 in
theorem s_X9_step {cx : CX} (p0 : (Option Nat)) : Sn cx m_X9_step eV 0 [(0, vA p0)] [] (f_X9_step p0) := by
  refine sn_aload_n (y := m_X9_step) (pc := 0) dX9_step_0 rfl ?_
  refine sn_dup (y := m_X9_step) (pc := 1) rfl dX9_step_1 ?_
  refine sn_getI (y := m_X9_step) (pc := 2) ca_7 rfl fk_X9_38 (fun _ _ _ => rfl) dX9_step_2 (fun r1 => ?_)
  refine sn_iconst (y := m_X9_step) (pc := 5) dX9_step_5 kc_iconst_1 ?_
  refine sn_iadd (y := m_X9_step) (pc := 6) dX9_step_6 ?_
  refine sn_putI (y := m_X9_step) (pc := 7) ca_7 rfl fk_X9_38 (Or.inl rfl) rfl dX9_step_7 ?_
  refine sn_aload_n (y := m_X9_step) (pc := 10) dX9_step_10 rfl ?_
  refine sn_getI (y := m_X9_step) (pc := 11) ca_7 rfl fk_X9_38 (fun _ _ _ => rfl) dX9_step_11 (fun r2 => ?_)
  refine sn_if_lt (y := m_X9_step) (pc := 14) (tgt := 56) dX9_step_14 (by decide) (fun _ => ?_) (fun _ => ?_)
  · exact sn_sub rfl (s_X9_step_j56 p0)
  refine sn_aload_n (y := m_X9_step) (pc := 17) dX9_step_17 rfl ?_
  refine sn_getI (y := m_X9_step) (pc := 18) ca_7 rfl fk_X9_38 (fun _ _ _ => rfl) dX9_step_18 (fun r9 => ?_)
  refine sn_aload_n (y := m_X9_step) (pc := 21) dX9_step_21 rfl ?_
  refine sn_getI (y := m_X9_step) (pc := 22) ca_7 rfl fk_X9_32 (fun _ _ _ => rfl) dX9_step_22 (fun r10 => ?_)
  refine sn_icmp_ge (y := m_X9_step) (pc := 25) (tgt := 56) dX9_step_25 (by decide) (fun _ => ?_) (fun _ => ?_)
  · exact sn_sub rfl (s_X9_step_j56 p0)
  refine sn_aload_n (y := m_X9_step) (pc := 28) dX9_step_28 rfl ?_
  refine sn_getI (y := m_X9_step) (pc := 29) ca_7 rfl fk_X9_38 (fun _ _ _ => rfl) dX9_step_29 (fun r11 => ?_)
  refine sn_aload_n (y := m_X9_step) (pc := 32) dX9_step_32 rfl ?_
  refine sn_getA (y := m_X9_step) (pc := 33) ca_7 rfl fk_X9_19 (fun _ _ _ => rfl) dX9_step_33 (fun r12 => ?_)
  refine sn_alen (y := m_X9_step) (pc := 36) dX9_step_36 (fun r13 => ?_)
  refine sn_icmp_ge (y := m_X9_step) (pc := 37) (tgt := 56) dX9_step_37 (by decide) (fun _ => ?_) (fun _ => ?_)
  · exact sn_sub rfl (s_X9_step_j56 p0)
  refine sn_aload_n (y := m_X9_step) (pc := 40) dX9_step_40 rfl ?_
  refine sn_getI (y := m_X9_step) (pc := 41) ca_7 rfl fk_X9_38 (fun _ _ _ => rfl) dX9_step_41 (fun r14 => ?_)
  refine sn_aload_n (y := m_X9_step) (pc := 44) dX9_step_44 rfl ?_
  refine sn_getA (y := m_X9_step) (pc := 45) ca_7 rfl fk_X9_22 (fun _ _ _ => rfl) dX9_step_45 (fun r15 => ?_)
  refine sn_alen (y := m_X9_step) (pc := 48) dX9_step_48 (fun r16 => ?_)
  refine sn_icmp_ge (y := m_X9_step) (pc := 49) (tgt := 56) dX9_step_49 (by decide) (fun _ => ?_) (fun _ => ?_)
  · exact sn_sub rfl (s_X9_step_j56 p0)
  refine sn_iconst (y := m_X9_step) (pc := 52) dX9_step_52 kc_iconst_1 ?_
  refine sn_goto (y := m_X9_step) (pc := 53) (tgt := 57) dX9_step_53 (by decide) ?_
  exact sn_sub rfl (s_X9_step_j57 p0 (1 : Int32))
set_option maxRecDepth 100000 in
theorem c_X9_step (g : Gl) (p0 : (Option Nat)) : Cn g m_X9_step eV [vA p0] (mCk 7 p0 (f_X9_step p0)) := cn_of_sn (by decide +kernel) rfl (fun _ => rfl) rfl (fun _ _ => sn_ck (s_X9_step p0))
/-! X9_split -/
def f_X9_split_j110 (k21 : Int32 → Int32 → Mo Unit) (x0 : (Option Nat)) (x2 : Int32) (x3 : Int32) (x4 : Int32) (s0 : Int32) (s1 : (Option Nat)) : Mo Unit :=
  mBd (mCk 7 s1 (f_X9_keepToken s1 s0 (x4.toInt64) x2)) (fun _ => k21 (x2 + 1) (x3 + 1))
set_option maxRecDepth 100000 in
theorem s_X9_split_j110 {cx : CX} {k21 : Int32 → Int32 → Mo Unit} (x0 : (Option Nat)) (x2 : Int32) (x3 : Int32) (x4 : Int32) (s0 : Int32) (s1 : (Option Nat)) (hk21 : ∀ (z2 : Int32) (z3 : Int32), Sn cx m_X9_split eV 21 [(2, vI z2), (3, vI z3), (0, vA x0)] [] (k21 z2 z3)) : Sn cx m_X9_split eV 110 [(0, vA x0), (2, vI x2), (3, vI x3), (4, vI x4)] [vI s0, vA s1] (f_X9_split_j110 k21 x0 x2 x3 x4 s0 s1) := by
  refine sn_iload (y := m_X9_split) (pc := 110) dX9_split_110 rfl ?_
  refine sn_i2l (y := m_X9_split) (pc := 112) dX9_split_112 ?_
  refine sn_iload_n (y := m_X9_split) (pc := 113) dX9_split_113 rfl ?_
  refine sn_invV (y := m_X9_split) (pc := 114) ca_7 (av := [vI s0, vJ (x4.toInt64), vI x2]) (o := s1) (st := []) dX9_split_114 lk_X9_108 im_X9_keepToken se_X9_keepToken rfl rfl rfl rfl ⟨by decide, by decide⟩ (c_X9_keepToken cx.1 s1 s0 (x4.toInt64) x2) (fun _ => ?_)
  refine sn_iinc (y := m_X9_split) (pc := 117) (v := x2 + 1) dX9_split_117 rfl (by rfl) rfl ?_
  refine sn_iinc (y := m_X9_split) (pc := 120) (v := x3 + 1) dX9_split_120 rfl (by rfl) rfl ?_
  refine sn_goto (y := m_X9_split) (pc := 123) (tgt := 21) dX9_split_123 (by decide) ?_
  exact sn_sub rfl (hk21 (x2 + 1) (x3 + 1))
def f_X9_split_b21 (x0 : (Option Nat)) (k21 : Int32 → Int32 → Mo Unit) (x2 : Int32) (x3 : Int32) : Mo Unit :=
  (if x3 ≥ (900 : Int32) then mBd (mPutI 7 8 x0 (-1 : Int32)) (fun _ => mBd (mCk 7 x0 (f_X9_step x0)) (fun _ => mRt ())) else mBd (mGetI 7 7 x0) (fun r3 => (if x2 ≥ r3 then mBd (mPutI 7 8 x0 (-1 : Int32)) (fun _ => mBd (mCk 7 x0 (f_X9_step x0)) (fun _ => mRt ())) else mBd (mGetA 7 0 x0) (fun r4 => mBd (f_X6_cell r4 x2) (fun r5 => (if ¬ r5 = (32 : Int32) then mBd (f_X9_isLetter r5) (fun r6 => (if r6 = 0 then mBd (f_X9_isDigit r5) (fun r7 => (if r7 = 0 then mBd (mCkS ((some 4)) (f_J0_indexOf_0f7a4 ((some 4)) ((r5.toUInt32 % 65536).toInt32))) (fun r8 => (if r8 < 0 then f_X9_split_j110 k21 x0 x2 x3 r5 (1 : Int32) x0 else f_X9_split_j110 k21 x0 x2 x3 r5 (3 : Int32) x0)) else mBd (mCk 7 x0 (f_X9_splitWhole x0 x2)) (fun r9 => k21 r9 (x3 + 1)))) else mBd (mCk 7 x0 (f_X9_splitWord x0 x2)) (fun r10 => k21 r10 (x3 + 1)))) else k21 (x2 + 1) (x3 + 1)))))))
def f_X9_split_l21 (x0 : (Option Nat)) : Int32 → Int32 → Mo Unit := lq2 (f_X9_split_b21 x0) fuel
set_option maxRecDepth 100000 in
theorem s_X9_split_b21 {cx : CX} (x0 : (Option Nat)) {k21 : Int32 → Int32 → Mo Unit} (hk21 : ∀ (z2 : Int32) (z3 : Int32), Sn cx m_X9_split eV 21 [(2, vI z2), (3, vI z3), (0, vA x0)] [] (k21 z2 z3)) (x2 : Int32) (x3 : Int32) : Sn cx m_X9_split eV 21 [(2, vI x2), (3, vI x3), (0, vA x0)] [] (f_X9_split_b21 x0 k21 x2 x3) := by
  refine sn_iload_n (y := m_X9_split) (pc := 21) dX9_split_21 rfl ?_
  refine sn_sipush (y := m_X9_split) (pc := 22) dX9_split_22 kc_sipush_900 ?_
  refine sn_icmp_ge (y := m_X9_split) (pc := 25) (tgt := 126) dX9_split_25 (by decide) (fun _ => ?_) (fun _ => ?_)
  · refine sn_aload_n (y := m_X9_split) (pc := 126) dX9_split_126 rfl ?_
    refine sn_iconst (y := m_X9_split) (pc := 127) dX9_split_127 kc_iconst_m1 ?_
    refine sn_putI (y := m_X9_split) (pc := 128) ca_7 rfl fk_X9_38 (Or.inl rfl) rfl dX9_split_128 ?_
    refine sn_aload_n (y := m_X9_split) (pc := 131) dX9_split_131 rfl ?_
    refine sn_invV (y := m_X9_split) (pc := 132) ca_7 (av := []) (o := x0) (st := []) dX9_split_132 lk_X9_112 im_X9_step se_X9_step rfl rfl rfl rfl ⟨by decide, by decide⟩ (c_X9_step cx.1 x0) (fun _ => ?_)
    exact sn_return rfl dX9_split_135
  refine sn_iload_n (y := m_X9_split) (pc := 28) dX9_split_28 rfl ?_
  refine sn_aload_n (y := m_X9_split) (pc := 29) dX9_split_29 rfl ?_
  refine sn_getI (y := m_X9_split) (pc := 30) ca_7 rfl fk_X9_35 (fun _ _ _ => rfl) dX9_split_30 (fun r3 => ?_)
  refine sn_icmp_ge (y := m_X9_split) (pc := 33) (tgt := 126) dX9_split_33 (by decide) (fun _ => ?_) (fun _ => ?_)
  · refine sn_aload_n (y := m_X9_split) (pc := 126) dX9_split_126 rfl ?_
    refine sn_iconst (y := m_X9_split) (pc := 127) dX9_split_127 kc_iconst_m1 ?_
    refine sn_putI (y := m_X9_split) (pc := 128) ca_7 rfl fk_X9_38 (Or.inl rfl) rfl dX9_split_128 ?_
    refine sn_aload_n (y := m_X9_split) (pc := 131) dX9_split_131 rfl ?_
    refine sn_invV (y := m_X9_split) (pc := 132) ca_7 (av := []) (o := x0) (st := []) dX9_split_132 lk_X9_112 im_X9_step se_X9_step rfl rfl rfl rfl ⟨by decide, by decide⟩ (c_X9_step cx.1 x0) (fun _ => ?_)
    exact sn_return rfl dX9_split_135
  refine sn_aload_n (y := m_X9_split) (pc := 36) dX9_split_36 rfl ?_
  refine sn_getA (y := m_X9_split) (pc := 37) ca_7 rfl fk_X9_11 (fun _ _ _ => rfl) dX9_split_37 (fun r4 => ?_)
  refine sn_iload_n (y := m_X9_split) (pc := 40) dX9_split_40 rfl ?_
  refine sn_invS (y := m_X9_split) (pc := 41) (av := [vA r4, vI x2]) (st := []) dX9_split_41 lk_X9_85 sw_X6_cell rfl rfl rfl ⟨by decide, by decide⟩ (c_X6_cell cx.1 r4 x2) (fun r5 => ?_)
  refine sn_istore (y := m_X9_split) (pc := 44) dX9_split_44 rfl ?_
  refine sn_iload (y := m_X9_split) (pc := 46) dX9_split_46 rfl ?_
  refine sn_bipush (y := m_X9_split) (pc := 48) dX9_split_48 kc_bipush_32 ?_
  refine sn_icmp_ne (y := m_X9_split) (pc := 50) (tgt := 59) dX9_split_50 (by decide) (fun _ => ?_) (fun _ => ?_)
  · refine sn_iload (y := m_X9_split) (pc := 59) dX9_split_59 rfl ?_
    refine sn_invS (y := m_X9_split) (pc := 61) (av := [vI r5]) (st := []) dX9_split_61 lk_X9_89 sw_X9_isLetter rfl rfl rfl ⟨by decide, by decide⟩ (c_X9_isLetter cx.1 r5) (fun r6 => ?_)
    refine sn_if_eq (y := m_X9_split) (pc := 64) (tgt := 76) dX9_split_64 (by decide) (fun _ => ?_) (fun _ => ?_)
    · refine sn_iload (y := m_X9_split) (pc := 76) dX9_split_76 rfl ?_
      refine sn_invS (y := m_X9_split) (pc := 78) (av := [vI r5]) (st := []) dX9_split_78 lk_X9_97 sw_X9_isDigit rfl rfl rfl ⟨by decide, by decide⟩ (c_X9_isDigit cx.1 r5) (fun r7 => ?_)
      refine sn_if_eq (y := m_X9_split) (pc := 81) (tgt := 93) dX9_split_81 (by decide) (fun _ => ?_) (fun _ => ?_)
      · refine sn_aload_n (y := m_X9_split) (pc := 93) dX9_split_93 rfl ?_
        refine sn_ldcS (y := m_X9_split) (pc := 94) (i := 1) rfl (by decide) dX9_split_94 ?_
        refine sn_iload (y := m_X9_split) (pc := 96) dX9_split_96 rfl ?_
        refine sn_i2c (y := m_X9_split) (pc := 98) dX9_split_98 ?_
        refine sn_invStr (y := m_X9_split) (pc := 99) (av := [vI ((r5.toUInt32 % 65536).toInt32)]) (o := (some 4)) (st := [vA x0]) dX9_split_99 lk_X9_105 im_J0_indexOf_0f7a4 se_J0_indexOf_0f7a4 rfl rfl rfl rfl ⟨by decide, by decide⟩ (c_J0_indexOf_0f7a4 cx.1 ((some 4)) ((r5.toUInt32 % 65536).toInt32)) (fun r8 => ?_)
        refine sn_if_lt (y := m_X9_split) (pc := 102) (tgt := 109) dX9_split_102 (by decide) (fun _ => ?_) (fun _ => ?_)
        · refine sn_iconst (y := m_X9_split) (pc := 109) dX9_split_109 kc_iconst_1 ?_
          exact sn_sub rfl (s_X9_split_j110 x0 x2 x3 r5 (1 : Int32) x0 hk21)
        refine sn_iconst (y := m_X9_split) (pc := 105) dX9_split_105 kc_iconst_3 ?_
        refine sn_goto (y := m_X9_split) (pc := 106) (tgt := 110) dX9_split_106 (by decide) ?_
        exact sn_sub rfl (s_X9_split_j110 x0 x2 x3 r5 (3 : Int32) x0 hk21)
      refine sn_aload_n (y := m_X9_split) (pc := 84) dX9_split_84 rfl ?_
      refine sn_iload_n (y := m_X9_split) (pc := 85) dX9_split_85 rfl ?_
      refine sn_invV (y := m_X9_split) (pc := 86) ca_7 (av := [vI x2]) (o := x0) (st := []) dX9_split_86 lk_X9_100 im_X9_splitWhole se_X9_splitWhole rfl rfl rfl rfl ⟨by decide, by decide⟩ (c_X9_splitWhole cx.1 x0 x2) (fun r9 => ?_)
      refine sn_istore_n (y := m_X9_split) (pc := 89) dX9_split_89 rfl ?_
      refine sn_goto (y := m_X9_split) (pc := 90) (tgt := 120) dX9_split_90 (by decide) ?_
      refine sn_iinc (y := m_X9_split) (pc := 120) (v := x3 + 1) dX9_split_120 rfl (by rfl) rfl ?_
      refine sn_goto (y := m_X9_split) (pc := 123) (tgt := 21) dX9_split_123 (by decide) ?_
      exact sn_sub rfl (hk21 r9 (x3 + 1))
    refine sn_aload_n (y := m_X9_split) (pc := 67) dX9_split_67 rfl ?_
    refine sn_iload_n (y := m_X9_split) (pc := 68) dX9_split_68 rfl ?_
    refine sn_invV (y := m_X9_split) (pc := 69) ca_7 (av := [vI x2]) (o := x0) (st := []) dX9_split_69 lk_X9_93 im_X9_splitWord se_X9_splitWord rfl rfl rfl rfl ⟨by decide, by decide⟩ (c_X9_splitWord cx.1 x0 x2) (fun r10 => ?_)
    refine sn_istore_n (y := m_X9_split) (pc := 72) dX9_split_72 rfl ?_
    refine sn_goto (y := m_X9_split) (pc := 73) (tgt := 120) dX9_split_73 (by decide) ?_
    refine sn_iinc (y := m_X9_split) (pc := 120) (v := x3 + 1) dX9_split_120 rfl (by rfl) rfl ?_
    refine sn_goto (y := m_X9_split) (pc := 123) (tgt := 21) dX9_split_123 (by decide) ?_
    exact sn_sub rfl (hk21 r10 (x3 + 1))
  refine sn_iinc (y := m_X9_split) (pc := 53) (v := x2 + 1) dX9_split_53 rfl (by rfl) rfl ?_
  refine sn_goto (y := m_X9_split) (pc := 56) (tgt := 120) dX9_split_56 (by decide) ?_
  refine sn_iinc (y := m_X9_split) (pc := 120) (v := x3 + 1) dX9_split_120 rfl (by rfl) rfl ?_
  refine sn_goto (y := m_X9_split) (pc := 123) (tgt := 21) dX9_split_123 (by decide) ?_
  exact sn_sub rfl (hk21 (x2 + 1) (x3 + 1))
set_option maxRecDepth 100000 in
theorem s_X9_split_l21 {cx : CX} (x0 : (Option Nat)) (x2 : Int32) (x3 : Int32) : Sn cx m_X9_split eV 21 [(2, vI x2), (3, vI x3), (0, vA x0)] [] (f_X9_split_l21 x0 x2 x3) :=
  sn_lq2 (L := fun x2 x3 => [(2, vI x2), (3, vI x3), (0, vA x0)]) (fun k hk x2 x3 => s_X9_split_b21 x0 hk x2 x3) fuel x2 x3
def f_X9_split (p0 : (Option Nat)) (p1 : Int32) : Mo Unit :=
  mBd (mGetI 7 5 p0) (fun r1 => mBd (f_J9_min_7cf53 p1 r1) (fun r2 => mBd (mPutI 7 7 p0 r2) (fun _ => mBd (mPutI 7 6 p0 (0 : Int32)) (fun _ => f_X9_split_l21 p0 (0 : Int32) (0 : Int32)))))
set_option maxRecDepth 100000 in
theorem s_X9_split {cx : CX} (p0 : (Option Nat)) (p1 : Int32) : Sn cx m_X9_split eV 0 [(0, vA p0), (1, vI p1)] [] (f_X9_split p0 p1) := by
  refine sn_aload_n (y := m_X9_split) (pc := 0) dX9_split_0 rfl ?_
  refine sn_iload_n (y := m_X9_split) (pc := 1) dX9_split_1 rfl ?_
  refine sn_aload_n (y := m_X9_split) (pc := 2) dX9_split_2 rfl ?_
  refine sn_getI (y := m_X9_split) (pc := 3) ca_7 rfl fk_X9_28 (fun _ _ _ => rfl) dX9_split_3 (fun r1 => ?_)
  refine sn_invS (y := m_X9_split) (pc := 6) (av := [vI p1, vI r1]) (st := [vA p0]) dX9_split_6 lk_X9_79 sw_J9_min_7cf53 rfl rfl rfl ⟨by decide, by decide⟩ (c_J9_min_7cf53 cx.1 p1 r1) (fun r2 => ?_)
  refine sn_putI (y := m_X9_split) (pc := 9) ca_7 rfl fk_X9_35 (Or.inl rfl) rfl dX9_split_9 ?_
  refine sn_aload_n (y := m_X9_split) (pc := 12) dX9_split_12 rfl ?_
  refine sn_iconst (y := m_X9_split) (pc := 13) dX9_split_13 kc_iconst_0 ?_
  refine sn_putI (y := m_X9_split) (pc := 14) ca_7 rfl fk_X9_32 (Or.inl rfl) rfl dX9_split_14 ?_
  refine sn_iconst (y := m_X9_split) (pc := 17) dX9_split_17 kc_iconst_0 ?_
  refine sn_istore_n (y := m_X9_split) (pc := 18) dX9_split_18 rfl ?_
  refine sn_iconst (y := m_X9_split) (pc := 19) dX9_split_19 kc_iconst_0 ?_
  refine sn_istore_n (y := m_X9_split) (pc := 20) dX9_split_20 rfl ?_
  exact sn_sub rfl (s_X9_split_l21 p0 (0 : Int32) (0 : Int32))
set_option maxRecDepth 100000 in
theorem c_X9_split (g : Gl) (p0 : (Option Nat)) (p1 : Int32) : Cn g m_X9_split eV [vA p0, vI p1] (mCk 7 p0 (f_X9_split p0 p1)) := cn_of_sn (by decide +kernel) rfl (fun _ => rfl) rfl (fun _ _ => sn_ck (s_X9_split p0 p1))
/-! X9_atWord -/
def f_X9_atWord (p0 : (Option Nat)) (p1 : Int32) : Mo Int32 :=
  mBd (mGetI 7 9 p0) (fun r1 => (if ¬ r1 = (4 : Int32) then mRt (0 : Int32) else mBd (mGetJ 7 10 p0) (fun r2 => (if ¬ r2 = (p1.toInt64) then mRt (0 : Int32) else mRt (1 : Int32)))))
set_option maxRecDepth 100000 in
theorem s_X9_atWord {cx : CX} (p0 : (Option Nat)) (p1 : Int32) : Sn cx m_X9_atWord eI 0 [(0, vA p0), (1, vI p1)] [] (f_X9_atWord p0 p1) := by
  refine sn_aload_n (y := m_X9_atWord) (pc := 0) dX9_atWord_0 rfl ?_
  refine sn_getI (y := m_X9_atWord) (pc := 1) ca_7 rfl fk_X9_41 (fun _ _ _ => rfl) dX9_atWord_1 (fun r1 => ?_)
  refine sn_iconst (y := m_X9_atWord) (pc := 4) dX9_atWord_4 kc_iconst_4 ?_
  refine sn_icmp_ne (y := m_X9_atWord) (pc := 5) (tgt := 22) dX9_atWord_5 (by decide) (fun _ => ?_) (fun _ => ?_)
  · refine sn_iconst (y := m_X9_atWord) (pc := 22) dX9_atWord_22 kc_iconst_0 ?_
    exact sn_zreturnC (by decide) rfl dX9_atWord_23
  refine sn_aload_n (y := m_X9_atWord) (pc := 8) dX9_atWord_8 rfl ?_
  refine sn_getJ (y := m_X9_atWord) (pc := 9) ca_7 rfl fk_X9_44 (fun _ _ _ => rfl) dX9_atWord_9 (fun r2 => ?_)
  refine sn_iload_n (y := m_X9_atWord) (pc := 12) dX9_atWord_12 rfl ?_
  refine sn_i2l (y := m_X9_atWord) (pc := 13) dX9_atWord_13 ?_
  refine sn_lc_ne (y := m_X9_atWord) (pc := 14) (tgt := 22) dX9_atWord_14 dX9_atWord_15 (by decide) (fun _ => ?_) (fun _ => ?_)
  · refine sn_iconst (y := m_X9_atWord) (pc := 22) dX9_atWord_22 kc_iconst_0 ?_
    exact sn_zreturnC (by decide) rfl dX9_atWord_23
  refine sn_iconst (y := m_X9_atWord) (pc := 18) dX9_atWord_18 kc_iconst_1 ?_
  refine sn_goto (y := m_X9_atWord) (pc := 19) (tgt := 23) dX9_atWord_19 (by decide) ?_
  exact sn_zreturnC (by decide) rfl dX9_atWord_23
set_option maxRecDepth 100000 in
theorem c_X9_atWord (g : Gl) (p0 : (Option Nat)) (p1 : Int32) : Cn g m_X9_atWord eI [vA p0, vI p1] (mCk 7 p0 (f_X9_atWord p0 p1)) := cn_of_sn (by decide +kernel) rfl (fun r => ⟨r, rfl⟩) rfl (fun _ _ => sn_ck (s_X9_atWord p0 p1))
/-! X3_blame -/
def f_X3_blame (p0 : (Option Nat)) (p1 : Int32) : Mo Int32 :=
  mBd (mPutI 3 11 p0 p1) (fun _ => mRt (0 : Int32))
set_option maxRecDepth 100000 in
theorem s_X3_blame {cx : CX} (p0 : (Option Nat)) (p1 : Int32) : Sn cx m_X3_blame eI 0 [(0, vA p0), (1, vI p1)] [] (f_X3_blame p0 p1) := by
  refine sn_aload_n (y := m_X3_blame) (pc := 0) dX3_blame_0 rfl ?_
  refine sn_iload_n (y := m_X3_blame) (pc := 1) dX3_blame_1 rfl ?_
  refine sn_putI (y := m_X3_blame) (pc := 2) ca_3 rfl fk_X3_64 (Or.inl rfl) rfl dX3_blame_2 ?_
  refine sn_iconst (y := m_X3_blame) (pc := 5) dX3_blame_5 kc_iconst_0 ?_
  exact sn_zreturnC (by decide) rfl dX3_blame_6
set_option maxRecDepth 100000 in
theorem c_X3_blame (g : Gl) (p0 : (Option Nat)) (p1 : Int32) : Cn g m_X3_blame eI [vA p0, vI p1] (mCk 3 p0 (f_X3_blame p0 p1)) := cn_of_sn (by decide +kernel) rfl (fun r => ⟨r, rfl⟩) rfl (fun _ _ => sn_ck (s_X3_blame p0 p1))
/-! X9_atName -/
def f_X9_atName (p0 : (Option Nat)) : Mo Int32 :=
  mBd (mGetI 7 9 p0) (fun r1 => (if ¬ r1 = (5 : Int32) then mRt (0 : Int32) else mRt (1 : Int32)))
set_option maxRecDepth 100000 in
theorem s_X9_atName {cx : CX} (p0 : (Option Nat)) : Sn cx m_X9_atName eI 0 [(0, vA p0)] [] (f_X9_atName p0) := by
  refine sn_aload_n (y := m_X9_atName) (pc := 0) dX9_atName_0 rfl ?_
  refine sn_getI (y := m_X9_atName) (pc := 1) ca_7 rfl fk_X9_41 (fun _ _ _ => rfl) dX9_atName_1 (fun r1 => ?_)
  refine sn_iconst (y := m_X9_atName) (pc := 4) dX9_atName_4 kc_iconst_5 ?_
  refine sn_icmp_ne (y := m_X9_atName) (pc := 5) (tgt := 12) dX9_atName_5 (by decide) (fun _ => ?_) (fun _ => ?_)
  · refine sn_iconst (y := m_X9_atName) (pc := 12) dX9_atName_12 kc_iconst_0 ?_
    exact sn_zreturnC (by decide) rfl dX9_atName_13
  refine sn_iconst (y := m_X9_atName) (pc := 8) dX9_atName_8 kc_iconst_1 ?_
  refine sn_goto (y := m_X9_atName) (pc := 9) (tgt := 13) dX9_atName_9 (by decide) ?_
  exact sn_zreturnC (by decide) rfl dX9_atName_13
set_option maxRecDepth 100000 in
theorem c_X9_atName (g : Gl) (p0 : (Option Nat)) : Cn g m_X9_atName eI [vA p0] (mCk 7 p0 (f_X9_atName p0)) := cn_of_sn (by decide +kernel) rfl (fun r => ⟨r, rfl⟩) rfl (fun _ _ => sn_ck (s_X9_atName p0))
/-! X9_nameNow -/
def f_X9_nameNow (p0 : (Option Nat)) : Mo Int64 :=
  mBd (mGetI 7 9 p0) (fun r1 => (if ¬ r1 = (5 : Int32) then mRt (0 : Int64) else mBd (mGetJ 7 10 p0) (fun r2 => mRt r2)))
set_option maxRecDepth 100000 in
theorem s_X9_nameNow {cx : CX} (p0 : (Option Nat)) : Sn cx m_X9_nameNow eJ 0 [(0, vA p0)] [] (f_X9_nameNow p0) := by
  refine sn_aload_n (y := m_X9_nameNow) (pc := 0) dX9_nameNow_0 rfl ?_
  refine sn_getI (y := m_X9_nameNow) (pc := 1) ca_7 rfl fk_X9_41 (fun _ _ _ => rfl) dX9_nameNow_1 (fun r1 => ?_)
  refine sn_iconst (y := m_X9_nameNow) (pc := 4) dX9_nameNow_4 kc_iconst_5 ?_
  refine sn_icmp_ne (y := m_X9_nameNow) (pc := 5) (tgt := 15) dX9_nameNow_5 (by decide) (fun _ => ?_) (fun _ => ?_)
  · refine sn_lconst (y := m_X9_nameNow) (pc := 15) dX9_nameNow_15 kc_lconst_0 ?_
    exact sn_lreturn rfl dX9_nameNow_16
  refine sn_aload_n (y := m_X9_nameNow) (pc := 8) dX9_nameNow_8 rfl ?_
  refine sn_getJ (y := m_X9_nameNow) (pc := 9) ca_7 rfl fk_X9_44 (fun _ _ _ => rfl) dX9_nameNow_9 (fun r2 => ?_)
  refine sn_goto (y := m_X9_nameNow) (pc := 12) (tgt := 16) dX9_nameNow_12 (by decide) ?_
  exact sn_lreturn rfl dX9_nameNow_16
set_option maxRecDepth 100000 in
theorem c_X9_nameNow (g : Gl) (p0 : (Option Nat)) : Cn g m_X9_nameNow eJ [vA p0] (mCk 7 p0 (f_X9_nameNow p0)) := cn_of_sn (by decide +kernel) rfl (fun r => ⟨r, rfl⟩) rfl (fun _ _ => sn_ck (s_X9_nameNow p0))
/-! X9_placeNow -/
def f_X9_placeNow (p0 : (Option Nat)) : Mo Int32 :=
  mBd (mGetI 7 8 p0) (fun r1 => mBd (mGetI 7 6 p0) (fun r2 => (if r1 ≥ r2 then mBd (mGetI 7 7 p0) (fun r3 => mRt r3) else mBd (mGetA 7 4 p0) (fun r4 => mBd (mGetI 7 8 p0) (fun r5 => mBd (f_X6_cell r4 r5) (fun r6 => mRt r6))))))
set_option maxRecDepth 100000 in
theorem s_X9_placeNow {cx : CX} (p0 : (Option Nat)) : Sn cx m_X9_placeNow eI 0 [(0, vA p0)] [] (f_X9_placeNow p0) := by
  refine sn_aload_n (y := m_X9_placeNow) (pc := 0) dX9_placeNow_0 rfl ?_
  refine sn_getI (y := m_X9_placeNow) (pc := 1) ca_7 rfl fk_X9_38 (fun _ _ _ => rfl) dX9_placeNow_1 (fun r1 => ?_)
  refine sn_aload_n (y := m_X9_placeNow) (pc := 4) dX9_placeNow_4 rfl ?_
  refine sn_getI (y := m_X9_placeNow) (pc := 5) ca_7 rfl fk_X9_32 (fun _ _ _ => rfl) dX9_placeNow_5 (fun r2 => ?_)
  refine sn_icmp_ge (y := m_X9_placeNow) (pc := 8) (tgt := 25) dX9_placeNow_8 (by decide) (fun _ => ?_) (fun _ => ?_)
  · refine sn_aload_n (y := m_X9_placeNow) (pc := 25) dX9_placeNow_25 rfl ?_
    refine sn_getI (y := m_X9_placeNow) (pc := 26) ca_7 rfl fk_X9_35 (fun _ _ _ => rfl) dX9_placeNow_26 (fun r3 => ?_)
    exact sn_ireturn rfl dX9_placeNow_29
  refine sn_aload_n (y := m_X9_placeNow) (pc := 11) dX9_placeNow_11 rfl ?_
  refine sn_getA (y := m_X9_placeNow) (pc := 12) ca_7 rfl fk_X9_25 (fun _ _ _ => rfl) dX9_placeNow_12 (fun r4 => ?_)
  refine sn_aload_n (y := m_X9_placeNow) (pc := 15) dX9_placeNow_15 rfl ?_
  refine sn_getI (y := m_X9_placeNow) (pc := 16) ca_7 rfl fk_X9_38 (fun _ _ _ => rfl) dX9_placeNow_16 (fun r5 => ?_)
  refine sn_invS (y := m_X9_placeNow) (pc := 19) (av := [vA r4, vI r5]) (st := []) dX9_placeNow_19 lk_X9_85 sw_X6_cell rfl rfl rfl ⟨by decide, by decide⟩ (c_X6_cell cx.1 r4 r5) (fun r6 => ?_)
  refine sn_goto (y := m_X9_placeNow) (pc := 22) (tgt := 29) dX9_placeNow_22 (by decide) ?_
  exact sn_ireturn rfl dX9_placeNow_29
set_option maxRecDepth 100000 in
theorem c_X9_placeNow (g : Gl) (p0 : (Option Nat)) : Cn g m_X9_placeNow eI [vA p0] (mCk 7 p0 (f_X9_placeNow p0)) := cn_of_sn (by decide +kernel) rfl (fun r => ⟨r, rfl⟩) rfl (fun _ _ => sn_ck (s_X9_placeNow p0))
/-! X3_takeNewName -/
def f_X3_takeNewName (p0 : (Option Nat)) : Mo Int32 :=
  mBd (mGetA 3 0 p0) (fun r1 => mBd (mCk 7 r1 (f_X9_atName r1)) (fun r2 => (if ¬ r2 = 0 then mBd (mGetA 3 5 p0) (fun r3 => mBd (mGetA 3 0 p0) (fun r4 => mBd (mCk 7 r4 (f_X9_nameNow r4)) (fun r5 => mBd (mCk 0 r3 (f_X0_knows r3 r5)) (fun r6 => (if r6 = 0 then mBd (mGetA 3 0 p0) (fun r7 => mBd (mCk 7 r7 (f_X9_nameNow r7)) (fun r8 => mBd (mPutJ 3 8 p0 r8) (fun _ => mBd (mGetA 3 0 p0) (fun r9 => mBd (mCk 7 r9 (f_X9_placeNow r9)) (fun r10 => mBd (mPutI 3 12 p0 r10) (fun _ => mBd (mGetA 3 0 p0) (fun r11 => mBd (mCk 7 r11 (f_X9_step r11)) (fun _ => mRt (1 : Int32))))))))) else mBd (mCk 3 p0 (f_X3_blame p0 (3 : Int32))) (fun r12 => mRq (r12 = 0 ∨ r12 = 1) (mRt r12))))))) else mBd (mCk 3 p0 (f_X3_blame p0 (1 : Int32))) (fun r13 => mRq (r13 = 0 ∨ r13 = 1) (mRt r13)))))
set_option maxRecDepth 100000 in
theorem s_X3_takeNewName {cx : CX} (p0 : (Option Nat)) : Sn cx m_X3_takeNewName eI 0 [(0, vA p0)] [] (f_X3_takeNewName p0) := by
  refine sn_aload_n (y := m_X3_takeNewName) (pc := 0) dX3_takeNewName_0 rfl ?_
  refine sn_getA (y := m_X3_takeNewName) (pc := 1) ca_3 rfl fk_X3_12 (fun _ _ _ => rfl) dX3_takeNewName_1 (fun r1 => ?_)
  refine sn_invV (y := m_X3_takeNewName) (pc := 4) ca_7 (av := []) (o := r1) (st := []) dX3_takeNewName_4 lk_X3_124 im_X9_atName se_X9_atName rfl rfl rfl rfl ⟨by decide, by decide⟩ (c_X9_atName cx.1 r1) (fun r2 => ?_)
  refine sn_if_ne (y := m_X3_takeNewName) (pc := 7) (tgt := 16) dX3_takeNewName_7 (by decide) (fun _ => ?_) (fun _ => ?_)
  · refine sn_aload_n (y := m_X3_takeNewName) (pc := 16) dX3_takeNewName_16 rfl ?_
    refine sn_getA (y := m_X3_takeNewName) (pc := 17) ca_3 rfl fk_X3_39 (fun _ _ _ => rfl) dX3_takeNewName_17 (fun r3 => ?_)
    refine sn_aload_n (y := m_X3_takeNewName) (pc := 20) dX3_takeNewName_20 rfl ?_
    refine sn_getA (y := m_X3_takeNewName) (pc := 21) ca_3 rfl fk_X3_12 (fun _ _ _ => rfl) dX3_takeNewName_21 (fun r4 => ?_)
    refine sn_invV (y := m_X3_takeNewName) (pc := 24) ca_7 (av := []) (o := r4) (st := [vA r3]) dX3_takeNewName_24 lk_X3_127 im_X9_nameNow se_X9_nameNow rfl rfl rfl rfl ⟨by decide, by decide⟩ (c_X9_nameNow cx.1 r4) (fun r5 => ?_)
    refine sn_invV (y := m_X3_takeNewName) (pc := 27) ca_0 (av := [vJ r5]) (o := r3) (st := []) dX3_takeNewName_27 lk_X3_131 im_X0_knows se_X0_knows rfl rfl rfl rfl ⟨by decide, by decide⟩ (c_X0_knows cx.1 r3 r5) (fun r6 => ?_)
    refine sn_if_eq (y := m_X3_takeNewName) (pc := 30) (tgt := 39) dX3_takeNewName_30 (by decide) (fun _ => ?_) (fun _ => ?_)
    · refine sn_aload_n (y := m_X3_takeNewName) (pc := 39) dX3_takeNewName_39 rfl ?_
      refine sn_aload_n (y := m_X3_takeNewName) (pc := 40) dX3_takeNewName_40 rfl ?_
      refine sn_getA (y := m_X3_takeNewName) (pc := 41) ca_3 rfl fk_X3_12 (fun _ _ _ => rfl) dX3_takeNewName_41 (fun r7 => ?_)
      refine sn_invV (y := m_X3_takeNewName) (pc := 44) ca_7 (av := []) (o := r7) (st := [vA p0]) dX3_takeNewName_44 lk_X3_127 im_X9_nameNow se_X9_nameNow rfl rfl rfl rfl ⟨by decide, by decide⟩ (c_X9_nameNow cx.1 r7) (fun r8 => ?_)
      refine sn_putJ (y := m_X3_takeNewName) (pc := 47) ca_3 rfl fk_X3_54 (Or.inl rfl) rfl dX3_takeNewName_47 ?_
      refine sn_aload_n (y := m_X3_takeNewName) (pc := 50) dX3_takeNewName_50 rfl ?_
      refine sn_aload_n (y := m_X3_takeNewName) (pc := 51) dX3_takeNewName_51 rfl ?_
      refine sn_getA (y := m_X3_takeNewName) (pc := 52) ca_3 rfl fk_X3_12 (fun _ _ _ => rfl) dX3_takeNewName_52 (fun r9 => ?_)
      refine sn_invV (y := m_X3_takeNewName) (pc := 55) ca_7 (av := []) (o := r9) (st := [vA p0]) dX3_takeNewName_55 lk_X3_95 im_X9_placeNow se_X9_placeNow rfl rfl rfl rfl ⟨by decide, by decide⟩ (c_X9_placeNow cx.1 r9) (fun r10 => ?_)
      refine sn_putI (y := m_X3_takeNewName) (pc := 58) ca_3 rfl fk_X3_67 (Or.inl rfl) rfl dX3_takeNewName_58 ?_
      refine sn_aload_n (y := m_X3_takeNewName) (pc := 61) dX3_takeNewName_61 rfl ?_
      refine sn_getA (y := m_X3_takeNewName) (pc := 62) ca_3 rfl fk_X3_12 (fun _ _ _ => rfl) dX3_takeNewName_62 (fun r11 => ?_)
      refine sn_invV (y := m_X3_takeNewName) (pc := 65) ca_7 (av := []) (o := r11) (st := []) dX3_takeNewName_65 lk_X3_92 im_X9_step se_X9_step rfl rfl rfl rfl ⟨by decide, by decide⟩ (c_X9_step cx.1 r11) (fun _ => ?_)
      refine sn_iconst (y := m_X3_takeNewName) (pc := 68) dX3_takeNewName_68 kc_iconst_1 ?_
      exact sn_zreturnC (by decide) rfl dX3_takeNewName_69
    refine sn_aload_n (y := m_X3_takeNewName) (pc := 33) dX3_takeNewName_33 rfl ?_
    refine sn_iconst (y := m_X3_takeNewName) (pc := 34) dX3_takeNewName_34 kc_iconst_3 ?_
    refine sn_invV (y := m_X3_takeNewName) (pc := 35) ca_3 (av := [vI (3 : Int32)]) (o := p0) (st := []) dX3_takeNewName_35 lk_X3_111 im_X3_blame se_X3_blame rfl rfl rfl rfl ⟨by decide, by decide⟩ (c_X3_blame cx.1 p0 (3 : Int32)) (fun r12 => ?_)
    exact sn_zreturn rfl dX3_takeNewName_38
  refine sn_aload_n (y := m_X3_takeNewName) (pc := 10) dX3_takeNewName_10 rfl ?_
  refine sn_iconst (y := m_X3_takeNewName) (pc := 11) dX3_takeNewName_11 kc_iconst_1 ?_
  refine sn_invV (y := m_X3_takeNewName) (pc := 12) ca_3 (av := [vI (1 : Int32)]) (o := p0) (st := []) dX3_takeNewName_12 lk_X3_111 im_X3_blame se_X3_blame rfl rfl rfl rfl ⟨by decide, by decide⟩ (c_X3_blame cx.1 p0 (1 : Int32)) (fun r13 => ?_)
  exact sn_zreturn rfl dX3_takeNewName_15
set_option maxRecDepth 100000 in
theorem c_X3_takeNewName (g : Gl) (p0 : (Option Nat)) : Cn g m_X3_takeNewName eI [vA p0] (mCk 3 p0 (f_X3_takeNewName p0)) := cn_of_sn (by decide +kernel) rfl (fun r => ⟨r, rfl⟩) rfl (fun _ _ => sn_ck (s_X3_takeNewName p0))
/-! X9_wholeNow -/
def f_X9_wholeNow (p0 : (Option Nat)) : Mo Int32 :=
  mBd (mGetI 7 9 p0) (fun r1 => (if ¬ r1 = (2 : Int32) then mRt (-1 : Int32) else mBd (mGetJ 7 10 p0) (fun r2 => mRt (r2.toInt32))))
set_option maxRecDepth 100000 in
theorem s_X9_wholeNow {cx : CX} (p0 : (Option Nat)) : Sn cx m_X9_wholeNow eI 0 [(0, vA p0)] [] (f_X9_wholeNow p0) := by
  refine sn_aload_n (y := m_X9_wholeNow) (pc := 0) dX9_wholeNow_0 rfl ?_
  refine sn_getI (y := m_X9_wholeNow) (pc := 1) ca_7 rfl fk_X9_41 (fun _ _ _ => rfl) dX9_wholeNow_1 (fun r1 => ?_)
  refine sn_iconst (y := m_X9_wholeNow) (pc := 4) dX9_wholeNow_4 kc_iconst_2 ?_
  refine sn_icmp_ne (y := m_X9_wholeNow) (pc := 5) (tgt := 16) dX9_wholeNow_5 (by decide) (fun _ => ?_) (fun _ => ?_)
  · refine sn_iconst (y := m_X9_wholeNow) (pc := 16) dX9_wholeNow_16 kc_iconst_m1 ?_
    exact sn_ireturn rfl dX9_wholeNow_17
  refine sn_aload_n (y := m_X9_wholeNow) (pc := 8) dX9_wholeNow_8 rfl ?_
  refine sn_getJ (y := m_X9_wholeNow) (pc := 9) ca_7 rfl fk_X9_44 (fun _ _ _ => rfl) dX9_wholeNow_9 (fun r2 => ?_)
  refine sn_l2i (y := m_X9_wholeNow) (pc := 12) dX9_wholeNow_12 ?_
  refine sn_goto (y := m_X9_wholeNow) (pc := 13) (tgt := 17) dX9_wholeNow_13 (by decide) ?_
  exact sn_ireturn rfl dX9_wholeNow_17
set_option maxRecDepth 100000 in
theorem c_X9_wholeNow (g : Gl) (p0 : (Option Nat)) : Cn g m_X9_wholeNow eI [vA p0] (mCk 7 p0 (f_X9_wholeNow p0)) := cn_of_sn (by decide +kernel) rfl (fun r => ⟨r, rfl⟩) rfl (fun _ _ => sn_ck (s_X9_wholeNow p0))
/-! X8_isOddPrime -/
def f_X8_isOddPrime_b16 (x0 : Int32) (k16 : Int32 → Mo Int32) (x1 : Int32) : Mo Int32 :=
  (if x1 ≥ x0 then mRt (1 : Int32) else mRq (¬ x1 = 0) ((if ¬ (irem x0 x1) = 0 then k16 (x1 + 1) else mRt (0 : Int32))))
def f_X8_isOddPrime_l16 (x0 : Int32) : Int32 → Mo Int32 := lq1 (f_X8_isOddPrime_b16 x0) fuel
set_option maxRecDepth 100000 in
theorem s_X8_isOddPrime_b16 {cx : CX} (x0 : Int32) {k16 : Int32 → Mo Int32} (hk16 : ∀ (z1 : Int32), Sn cx m_X8_isOddPrime eI 16 [(1, vI z1), (0, vI x0)] [] (k16 z1)) (x1 : Int32) : Sn cx m_X8_isOddPrime eI 16 [(1, vI x1), (0, vI x0)] [] (f_X8_isOddPrime_b16 x0 k16 x1) := by
  refine sn_iload_n (y := m_X8_isOddPrime) (pc := 16) dX8_isOddPrime_16 rfl ?_
  refine sn_iload_n (y := m_X8_isOddPrime) (pc := 17) dX8_isOddPrime_17 rfl ?_
  refine sn_icmp_ge (y := m_X8_isOddPrime) (pc := 18) (tgt := 35) dX8_isOddPrime_18 (by decide) (fun _ => ?_) (fun _ => ?_)
  · refine sn_iconst (y := m_X8_isOddPrime) (pc := 35) dX8_isOddPrime_35 kc_iconst_1 ?_
    exact sn_zreturnC (by decide) rfl dX8_isOddPrime_36
  refine sn_iload_n (y := m_X8_isOddPrime) (pc := 21) dX8_isOddPrime_21 rfl ?_
  refine sn_iload_n (y := m_X8_isOddPrime) (pc := 22) dX8_isOddPrime_22 rfl ?_
  refine sn_irem (y := m_X8_isOddPrime) (pc := 23) dX8_isOddPrime_23 ?_
  refine sn_if_ne (y := m_X8_isOddPrime) (pc := 24) (tgt := 29) dX8_isOddPrime_24 (by decide) (fun _ => ?_) (fun _ => ?_)
  · refine sn_iinc (y := m_X8_isOddPrime) (pc := 29) (v := x1 + 1) dX8_isOddPrime_29 rfl (by rfl) rfl ?_
    refine sn_goto (y := m_X8_isOddPrime) (pc := 32) (tgt := 16) dX8_isOddPrime_32 (by decide) ?_
    exact sn_sub rfl (hk16 (x1 + 1))
  refine sn_iconst (y := m_X8_isOddPrime) (pc := 27) dX8_isOddPrime_27 kc_iconst_0 ?_
  exact sn_zreturnC (by decide) rfl dX8_isOddPrime_28
set_option maxRecDepth 100000 in
theorem s_X8_isOddPrime_l16 {cx : CX} (x0 : Int32) (x1 : Int32) : Sn cx m_X8_isOddPrime eI 16 [(1, vI x1), (0, vI x0)] [] (f_X8_isOddPrime_l16 x0 x1) :=
  sn_lq1 (L := fun x1 => [(1, vI x1), (0, vI x0)]) (fun k hk x1 => s_X8_isOddPrime_b16 x0 hk x1) fuel x1
def f_X8_isOddPrime (p0 : Int32) : Mo Int32 :=
  (if p0 < (3 : Int32) then mRt (0 : Int32) else (if p0 ≤ (199 : Int32) then f_X8_isOddPrime_l16 p0 (2 : Int32) else mRt (0 : Int32)))
set_option maxRecDepth 100000 in
theorem s_X8_isOddPrime {cx : CX} (p0 : Int32) : Sn cx m_X8_isOddPrime eI 0 [(0, vI p0)] [] (f_X8_isOddPrime p0) := by
  refine sn_iload_n (y := m_X8_isOddPrime) (pc := 0) dX8_isOddPrime_0 rfl ?_
  refine sn_iconst (y := m_X8_isOddPrime) (pc := 1) dX8_isOddPrime_1 kc_iconst_3 ?_
  refine sn_icmp_lt (y := m_X8_isOddPrime) (pc := 2) (tgt := 12) dX8_isOddPrime_2 (by decide) (fun _ => ?_) (fun _ => ?_)
  · refine sn_iconst (y := m_X8_isOddPrime) (pc := 12) dX8_isOddPrime_12 kc_iconst_0 ?_
    exact sn_zreturnC (by decide) rfl dX8_isOddPrime_13
  refine sn_iload_n (y := m_X8_isOddPrime) (pc := 5) dX8_isOddPrime_5 rfl ?_
  refine sn_sipush (y := m_X8_isOddPrime) (pc := 6) dX8_isOddPrime_6 kc_sipush_199 ?_
  refine sn_icmp_le (y := m_X8_isOddPrime) (pc := 9) (tgt := 14) dX8_isOddPrime_9 (by decide) (fun _ => ?_) (fun _ => ?_)
  · refine sn_iconst (y := m_X8_isOddPrime) (pc := 14) dX8_isOddPrime_14 kc_iconst_2 ?_
    refine sn_istore_n (y := m_X8_isOddPrime) (pc := 15) dX8_isOddPrime_15 rfl ?_
    exact sn_sub rfl (s_X8_isOddPrime_l16 p0 (2 : Int32))
  refine sn_iconst (y := m_X8_isOddPrime) (pc := 12) dX8_isOddPrime_12 kc_iconst_0 ?_
  exact sn_zreturnC (by decide) rfl dX8_isOddPrime_13
set_option maxRecDepth 100000 in
theorem c_X8_isOddPrime (g : Gl) (p0 : Int32) : Cn g m_X8_isOddPrime eI [vI p0] (f_X8_isOddPrime p0) := cn_of_sn (by decide +kernel) rfl (fun r => ⟨r, rfl⟩) rfl (fun _ _ => s_X8_isOddPrime p0)
/-! X9_atWhole -/
def f_X9_atWhole (p0 : (Option Nat)) : Mo Int32 :=
  mBd (mGetI 7 9 p0) (fun r1 => (if ¬ r1 = (2 : Int32) then mRt (0 : Int32) else mRt (1 : Int32)))
set_option maxRecDepth 100000 in
theorem s_X9_atWhole {cx : CX} (p0 : (Option Nat)) : Sn cx m_X9_atWhole eI 0 [(0, vA p0)] [] (f_X9_atWhole p0) := by
  refine sn_aload_n (y := m_X9_atWhole) (pc := 0) dX9_atWhole_0 rfl ?_
  refine sn_getI (y := m_X9_atWhole) (pc := 1) ca_7 rfl fk_X9_41 (fun _ _ _ => rfl) dX9_atWhole_1 (fun r1 => ?_)
  refine sn_iconst (y := m_X9_atWhole) (pc := 4) dX9_atWhole_4 kc_iconst_2 ?_
  refine sn_icmp_ne (y := m_X9_atWhole) (pc := 5) (tgt := 12) dX9_atWhole_5 (by decide) (fun _ => ?_) (fun _ => ?_)
  · refine sn_iconst (y := m_X9_atWhole) (pc := 12) dX9_atWhole_12 kc_iconst_0 ?_
    exact sn_zreturnC (by decide) rfl dX9_atWhole_13
  refine sn_iconst (y := m_X9_atWhole) (pc := 8) dX9_atWhole_8 kc_iconst_1 ?_
  refine sn_goto (y := m_X9_atWhole) (pc := 9) (tgt := 13) dX9_atWhole_9 (by decide) ?_
  exact sn_zreturnC (by decide) rfl dX9_atWhole_13
set_option maxRecDepth 100000 in
theorem c_X9_atWhole (g : Gl) (p0 : (Option Nat)) : Cn g m_X9_atWhole eI [vA p0] (mCk 7 p0 (f_X9_atWhole p0)) := cn_of_sn (by decide +kernel) rfl (fun r => ⟨r, rfl⟩) rfl (fun _ _ => sn_ck (s_X9_atWhole p0))
/-! X3_takeWhole -/
def f_X3_takeWhole (p0 : (Option Nat)) (p1 : Int32) : Mo Int32 :=
  mBd (mGetA 3 0 p0) (fun r1 => mBd (mCk 7 r1 (f_X9_atWhole r1)) (fun r2 => (if ¬ r2 = 0 then (if ¬ p1 = 0 then mBd (mGetA 3 0 p0) (fun r3 => mBd (mCk 7 r3 (f_X9_wholeNow r3)) (fun r4 => mBd (mPutI 3 9 p0 r4) (fun _ => mBd (mGetA 3 0 p0) (fun r5 => mBd (mCk 7 r5 (f_X9_step r5)) (fun _ => mRt (1 : Int32)))))) else mBd (mCk 3 p0 (f_X3_blame p0 (4 : Int32))) (fun r6 => mRq (r6 = 0 ∨ r6 = 1) (mRt r6))) else mBd (mCk 3 p0 (f_X3_blame p0 (1 : Int32))) (fun r7 => mRq (r7 = 0 ∨ r7 = 1) (mRt r7)))))
set_option maxRecDepth 100000 in
theorem s_X3_takeWhole {cx : CX} (p0 : (Option Nat)) (p1 : Int32) : Sn cx m_X3_takeWhole eI 0 [(0, vA p0), (1, vI p1)] [] (f_X3_takeWhole p0 p1) := by
  refine sn_aload_n (y := m_X3_takeWhole) (pc := 0) dX3_takeWhole_0 rfl ?_
  refine sn_getA (y := m_X3_takeWhole) (pc := 1) ca_3 rfl fk_X3_12 (fun _ _ _ => rfl) dX3_takeWhole_1 (fun r1 => ?_)
  refine sn_invV (y := m_X3_takeWhole) (pc := 4) ca_7 (av := []) (o := r1) (st := []) dX3_takeWhole_4 lk_X3_118 im_X9_atWhole se_X9_atWhole rfl rfl rfl rfl ⟨by decide, by decide⟩ (c_X9_atWhole cx.1 r1) (fun r2 => ?_)
  refine sn_if_ne (y := m_X3_takeWhole) (pc := 7) (tgt := 16) dX3_takeWhole_7 (by decide) (fun _ => ?_) (fun _ => ?_)
  · refine sn_iload_n (y := m_X3_takeWhole) (pc := 16) dX3_takeWhole_16 rfl ?_
    refine sn_if_ne (y := m_X3_takeWhole) (pc := 17) (tgt := 26) dX3_takeWhole_17 (by decide) (fun _ => ?_) (fun _ => ?_)
    · refine sn_aload_n (y := m_X3_takeWhole) (pc := 26) dX3_takeWhole_26 rfl ?_
      refine sn_aload_n (y := m_X3_takeWhole) (pc := 27) dX3_takeWhole_27 rfl ?_
      refine sn_getA (y := m_X3_takeWhole) (pc := 28) ca_3 rfl fk_X3_12 (fun _ _ _ => rfl) dX3_takeWhole_28 (fun r3 => ?_)
      refine sn_invV (y := m_X3_takeWhole) (pc := 31) ca_7 (av := []) (o := r3) (st := [vA p0]) dX3_takeWhole_31 lk_X3_121 im_X9_wholeNow se_X9_wholeNow rfl rfl rfl rfl ⟨by decide, by decide⟩ (c_X9_wholeNow cx.1 r3) (fun r4 => ?_)
      refine sn_putI (y := m_X3_takeWhole) (pc := 34) ca_3 rfl fk_X3_58 (Or.inl rfl) rfl dX3_takeWhole_34 ?_
      refine sn_aload_n (y := m_X3_takeWhole) (pc := 37) dX3_takeWhole_37 rfl ?_
      refine sn_getA (y := m_X3_takeWhole) (pc := 38) ca_3 rfl fk_X3_12 (fun _ _ _ => rfl) dX3_takeWhole_38 (fun r5 => ?_)
      refine sn_invV (y := m_X3_takeWhole) (pc := 41) ca_7 (av := []) (o := r5) (st := []) dX3_takeWhole_41 lk_X3_92 im_X9_step se_X9_step rfl rfl rfl rfl ⟨by decide, by decide⟩ (c_X9_step cx.1 r5) (fun _ => ?_)
      refine sn_iconst (y := m_X3_takeWhole) (pc := 44) dX3_takeWhole_44 kc_iconst_1 ?_
      exact sn_zreturnC (by decide) rfl dX3_takeWhole_45
    refine sn_aload_n (y := m_X3_takeWhole) (pc := 20) dX3_takeWhole_20 rfl ?_
    refine sn_iconst (y := m_X3_takeWhole) (pc := 21) dX3_takeWhole_21 kc_iconst_4 ?_
    refine sn_invV (y := m_X3_takeWhole) (pc := 22) ca_3 (av := [vI (4 : Int32)]) (o := p0) (st := []) dX3_takeWhole_22 lk_X3_111 im_X3_blame se_X3_blame rfl rfl rfl rfl ⟨by decide, by decide⟩ (c_X3_blame cx.1 p0 (4 : Int32)) (fun r6 => ?_)
    exact sn_zreturn rfl dX3_takeWhole_25
  refine sn_aload_n (y := m_X3_takeWhole) (pc := 10) dX3_takeWhole_10 rfl ?_
  refine sn_iconst (y := m_X3_takeWhole) (pc := 11) dX3_takeWhole_11 kc_iconst_1 ?_
  refine sn_invV (y := m_X3_takeWhole) (pc := 12) ca_3 (av := [vI (1 : Int32)]) (o := p0) (st := []) dX3_takeWhole_12 lk_X3_111 im_X3_blame se_X3_blame rfl rfl rfl rfl ⟨by decide, by decide⟩ (c_X3_blame cx.1 p0 (1 : Int32)) (fun r7 => ?_)
  exact sn_zreturn rfl dX3_takeWhole_15
set_option maxRecDepth 100000 in
theorem c_X3_takeWhole (g : Gl) (p0 : (Option Nat)) (p1 : Int32) : Cn g m_X3_takeWhole eI [vA p0, vI p1] (mCk 3 p0 (f_X3_takeWhole p0 p1)) := cn_of_sn (by decide +kernel) rfl (fun r => ⟨r, rfl⟩) rfl (fun _ _ => sn_ck (s_X3_takeWhole p0 p1))
/-! X3_takeWord -/
def f_X3_takeWord (p0 : (Option Nat)) (p1 : Int32) : Mo Int32 :=
  mBd (mGetA 3 0 p0) (fun r1 => mBd (mCk 7 r1 (f_X9_atWord r1 p1)) (fun r2 => (if ¬ r2 = 0 then mBd (mGetA 3 0 p0) (fun r3 => mBd (mCk 7 r3 (f_X9_step r3)) (fun _ => mRt (1 : Int32))) else mBd (mCk 3 p0 (f_X3_blame p0 (1 : Int32))) (fun r4 => mRq (r4 = 0 ∨ r4 = 1) (mRt r4)))))
set_option maxRecDepth 100000 in
theorem s_X3_takeWord {cx : CX} (p0 : (Option Nat)) (p1 : Int32) : Sn cx m_X3_takeWord eI 0 [(0, vA p0), (1, vI p1)] [] (f_X3_takeWord p0 p1) := by
  refine sn_aload_n (y := m_X3_takeWord) (pc := 0) dX3_takeWord_0 rfl ?_
  refine sn_getA (y := m_X3_takeWord) (pc := 1) ca_3 rfl fk_X3_12 (fun _ _ _ => rfl) dX3_takeWord_1 (fun r1 => ?_)
  refine sn_iload_n (y := m_X3_takeWord) (pc := 4) dX3_takeWord_4 rfl ?_
  refine sn_invV (y := m_X3_takeWord) (pc := 5) ca_7 (av := [vI p1]) (o := r1) (st := []) dX3_takeWord_5 lk_X3_98 im_X9_atWord se_X9_atWord rfl rfl rfl rfl ⟨by decide, by decide⟩ (c_X9_atWord cx.1 r1 p1) (fun r2 => ?_)
  refine sn_if_ne (y := m_X3_takeWord) (pc := 8) (tgt := 17) dX3_takeWord_8 (by decide) (fun _ => ?_) (fun _ => ?_)
  · refine sn_aload_n (y := m_X3_takeWord) (pc := 17) dX3_takeWord_17 rfl ?_
    refine sn_getA (y := m_X3_takeWord) (pc := 18) ca_3 rfl fk_X3_12 (fun _ _ _ => rfl) dX3_takeWord_18 (fun r3 => ?_)
    refine sn_invV (y := m_X3_takeWord) (pc := 21) ca_7 (av := []) (o := r3) (st := []) dX3_takeWord_21 lk_X3_92 im_X9_step se_X9_step rfl rfl rfl rfl ⟨by decide, by decide⟩ (c_X9_step cx.1 r3) (fun _ => ?_)
    refine sn_iconst (y := m_X3_takeWord) (pc := 24) dX3_takeWord_24 kc_iconst_1 ?_
    exact sn_zreturnC (by decide) rfl dX3_takeWord_25
  refine sn_aload_n (y := m_X3_takeWord) (pc := 11) dX3_takeWord_11 rfl ?_
  refine sn_iconst (y := m_X3_takeWord) (pc := 12) dX3_takeWord_12 kc_iconst_1 ?_
  refine sn_invV (y := m_X3_takeWord) (pc := 13) ca_3 (av := [vI (1 : Int32)]) (o := p0) (st := []) dX3_takeWord_13 lk_X3_111 im_X3_blame se_X3_blame rfl rfl rfl rfl ⟨by decide, by decide⟩ (c_X3_blame cx.1 p0 (1 : Int32)) (fun r4 => ?_)
  exact sn_zreturn rfl dX3_takeWord_16
set_option maxRecDepth 100000 in
theorem c_X3_takeWord (g : Gl) (p0 : (Option Nat)) (p1 : Int32) : Cn g m_X3_takeWord eI [vA p0, vI p1] (mCk 3 p0 (f_X3_takeWord p0 p1)) := cn_of_sn (by decide +kernel) rfl (fun r => ⟨r, rfl⟩) rfl (fun _ _ => sn_ck (s_X3_takeWord p0 p1))
/-! X3_isOrderFor -/
def f_X3_isOrderFor (p0 : Int32) (p1 : Int32) : Mo Int32 :=
  (if p1 < (2 : Int32) then mRt (0 : Int32) else (if p1 > (12 : Int32) then mRt (0 : Int32) else mRq (¬ p1 = 0) ((if ¬ (irem (p0 - (1 : Int32)) p1) = 0 then mRt (0 : Int32) else mRt (1 : Int32)))))
set_option maxRecDepth 100000 in
theorem s_X3_isOrderFor {cx : CX} (p0 : Int32) (p1 : Int32) : Sn cx m_X3_isOrderFor eI 0 [(0, vI p0), (1, vI p1)] [] (f_X3_isOrderFor p0 p1) := by
  refine sn_iload_n (y := m_X3_isOrderFor) (pc := 0) dX3_isOrderFor_0 rfl ?_
  refine sn_iconst (y := m_X3_isOrderFor) (pc := 1) dX3_isOrderFor_1 kc_iconst_2 ?_
  refine sn_icmp_lt (y := m_X3_isOrderFor) (pc := 2) (tgt := 23) dX3_isOrderFor_2 (by decide) (fun _ => ?_) (fun _ => ?_)
  · refine sn_iconst (y := m_X3_isOrderFor) (pc := 23) dX3_isOrderFor_23 kc_iconst_0 ?_
    exact sn_zreturnC (by decide) rfl dX3_isOrderFor_24
  refine sn_iload_n (y := m_X3_isOrderFor) (pc := 5) dX3_isOrderFor_5 rfl ?_
  refine sn_bipush (y := m_X3_isOrderFor) (pc := 6) dX3_isOrderFor_6 kc_bipush_12 ?_
  refine sn_icmp_gt (y := m_X3_isOrderFor) (pc := 8) (tgt := 23) dX3_isOrderFor_8 (by decide) (fun _ => ?_) (fun _ => ?_)
  · refine sn_iconst (y := m_X3_isOrderFor) (pc := 23) dX3_isOrderFor_23 kc_iconst_0 ?_
    exact sn_zreturnC (by decide) rfl dX3_isOrderFor_24
  refine sn_iload_n (y := m_X3_isOrderFor) (pc := 11) dX3_isOrderFor_11 rfl ?_
  refine sn_iconst (y := m_X3_isOrderFor) (pc := 12) dX3_isOrderFor_12 kc_iconst_1 ?_
  refine sn_isub (y := m_X3_isOrderFor) (pc := 13) dX3_isOrderFor_13 ?_
  refine sn_iload_n (y := m_X3_isOrderFor) (pc := 14) dX3_isOrderFor_14 rfl ?_
  refine sn_irem (y := m_X3_isOrderFor) (pc := 15) dX3_isOrderFor_15 ?_
  refine sn_if_ne (y := m_X3_isOrderFor) (pc := 16) (tgt := 23) dX3_isOrderFor_16 (by decide) (fun _ => ?_) (fun _ => ?_)
  · refine sn_iconst (y := m_X3_isOrderFor) (pc := 23) dX3_isOrderFor_23 kc_iconst_0 ?_
    exact sn_zreturnC (by decide) rfl dX3_isOrderFor_24
  refine sn_iconst (y := m_X3_isOrderFor) (pc := 19) dX3_isOrderFor_19 kc_iconst_1 ?_
  refine sn_goto (y := m_X3_isOrderFor) (pc := 20) (tgt := 24) dX3_isOrderFor_20 (by decide) ?_
  exact sn_zreturnC (by decide) rfl dX3_isOrderFor_24
set_option maxRecDepth 100000 in
theorem c_X3_isOrderFor (g : Gl) (p0 : Int32) (p1 : Int32) : Cn g m_X3_isOrderFor eI [vI p0, vI p1] (f_X3_isOrderFor p0 p1) := cn_of_sn (by decide +kernel) rfl (fun r => ⟨r, rfl⟩) rfl (fun _ _ => s_X3_isOrderFor p0 p1)
/-! X3_readField -/
def f_X3_readField (p0 : (Option Nat)) : Mo Int32 :=
  mBd (mGetA 3 5 p0) (fun r1 => mBd (mCk 0 r1 (f_X0_fieldsHeld r1)) (fun r2 => (if r2 < (4 : Int32) then mBd (mGetA 3 0 p0) (fun r3 => mBd (mCk 7 r3 (f_X9_step r3)) (fun _ => mBd (mCk 3 p0 (f_X3_takeNewName p0)) (fun r4 => (if r4 = 0 then mRt (0 : Int32) else mBd (mGetA 3 0 p0) (fun r5 => mBd (mCk 7 r5 (f_X9_wholeNow r5)) (fun r6 => mBd (f_X8_isOddPrime r6) (fun r7 => mBd (mCk 3 p0 (f_X3_takeWhole p0 r7)) (fun r8 => (if ¬ r8 = 0 then mBd (mGetI 3 9 p0) (fun r9 => mBd (mCk 3 p0 (f_X3_takeWord p0 (3 : Int32))) (fun r10 => (if r10 = 0 then mRt (0 : Int32) else mBd (mGetA 3 0 p0) (fun r11 => mBd (mCk 7 r11 (f_X9_wholeNow r11)) (fun r12 => mBd (f_X3_isOrderFor r9 r12) (fun r13 => mBd (mCk 3 p0 (f_X3_takeWhole p0 r13)) (fun r14 => (if ¬ r14 = 0 then mBd (mGetA 3 5 p0) (fun r15 => mBd (mGetJ 3 8 p0) (fun r16 => mBd (mGetI 3 9 p0) (fun r17 => mBd (mCk 0 r15 (f_X0_tellField r15 r16 r9 r17)) (fun _ => mRt (1 : Int32))))) else mRt (0 : Int32))))))))) else mRt (0 : Int32)))))))))) else mBd (mCk 3 p0 (f_X3_blame p0 (5 : Int32))) (fun r18 => mRq (r18 = 0 ∨ r18 = 1) (mRt r18)))))
set_option maxRecDepth 100000 in
theorem s_X3_readField {cx : CX} (p0 : (Option Nat)) : Sn cx m_X3_readField eI 0 [(0, vA p0)] [] (f_X3_readField p0) := by
  refine sn_aload_n (y := m_X3_readField) (pc := 0) dX3_readField_0 rfl ?_
  refine sn_getA (y := m_X3_readField) (pc := 1) ca_3 rfl fk_X3_39 (fun _ _ _ => rfl) dX3_readField_1 (fun r1 => ?_)
  refine sn_invV (y := m_X3_readField) (pc := 4) ca_0 (av := []) (o := r1) (st := []) dX3_readField_4 lk_X3_88 im_X0_fieldsHeld se_X0_fieldsHeld rfl rfl rfl rfl ⟨by decide, by decide⟩ (c_X0_fieldsHeld cx.1 r1) (fun r2 => ?_)
  refine sn_iconst (y := m_X3_readField) (pc := 7) dX3_readField_7 kc_iconst_4 ?_
  refine sn_icmp_lt (y := m_X3_readField) (pc := 8) (tgt := 17) dX3_readField_8 (by decide) (fun _ => ?_) (fun _ => ?_)
  · refine sn_aload_n (y := m_X3_readField) (pc := 17) dX3_readField_17 rfl ?_
    refine sn_getA (y := m_X3_readField) (pc := 18) ca_3 rfl fk_X3_12 (fun _ _ _ => rfl) dX3_readField_18 (fun r3 => ?_)
    refine sn_invV (y := m_X3_readField) (pc := 21) ca_7 (av := []) (o := r3) (st := []) dX3_readField_21 lk_X3_92 im_X9_step se_X9_step rfl rfl rfl rfl ⟨by decide, by decide⟩ (c_X9_step cx.1 r3) (fun _ => ?_)
    refine sn_aload_n (y := m_X3_readField) (pc := 24) dX3_readField_24 rfl ?_
    refine sn_invV (y := m_X3_readField) (pc := 25) ca_3 (av := []) (o := p0) (st := []) dX3_readField_25 lk_X3_146 im_X3_takeNewName se_X3_takeNewName rfl rfl rfl rfl ⟨by decide, by decide⟩ (c_X3_takeNewName cx.1 p0) (fun r4 => ?_)
    refine sn_if_eq (y := m_X3_readField) (pc := 28) (tgt := 48) dX3_readField_28 (by decide) (fun _ => ?_) (fun _ => ?_)
    · refine sn_iconst (y := m_X3_readField) (pc := 48) dX3_readField_48 kc_iconst_0 ?_
      exact sn_zreturnC (by decide) rfl dX3_readField_49
    refine sn_aload_n (y := m_X3_readField) (pc := 31) dX3_readField_31 rfl ?_
    refine sn_aload_n (y := m_X3_readField) (pc := 32) dX3_readField_32 rfl ?_
    refine sn_getA (y := m_X3_readField) (pc := 33) ca_3 rfl fk_X3_12 (fun _ _ _ => rfl) dX3_readField_33 (fun r5 => ?_)
    refine sn_invV (y := m_X3_readField) (pc := 36) ca_7 (av := []) (o := r5) (st := [vA p0]) dX3_readField_36 lk_X3_121 im_X9_wholeNow se_X9_wholeNow rfl rfl rfl rfl ⟨by decide, by decide⟩ (c_X9_wholeNow cx.1 r5) (fun r6 => ?_)
    refine sn_invS (y := m_X3_readField) (pc := 39) (av := [vI r6]) (st := [vA p0]) dX3_readField_39 lk_X3_149 sw_X8_isOddPrime rfl rfl rfl ⟨by decide, by decide⟩ (c_X8_isOddPrime cx.1 r6) (fun r7 => ?_)
    refine sn_invV (y := m_X3_readField) (pc := 42) ca_3 (av := [vI r7]) (o := p0) (st := []) dX3_readField_42 lk_X3_154 im_X3_takeWhole se_X3_takeWhole rfl rfl rfl rfl ⟨by decide, by decide⟩ (c_X3_takeWhole cx.1 p0 r7) (fun r8 => ?_)
    refine sn_if_ne (y := m_X3_readField) (pc := 45) (tgt := 50) dX3_readField_45 (by decide) (fun _ => ?_) (fun _ => ?_)
    · refine sn_aload_n (y := m_X3_readField) (pc := 50) dX3_readField_50 rfl ?_
      refine sn_getI (y := m_X3_readField) (pc := 51) ca_3 rfl fk_X3_58 (fun _ _ _ => rfl) dX3_readField_51 (fun r9 => ?_)
      refine sn_istore_n (y := m_X3_readField) (pc := 54) dX3_readField_54 rfl ?_
      refine sn_aload_n (y := m_X3_readField) (pc := 55) dX3_readField_55 rfl ?_
      refine sn_iconst (y := m_X3_readField) (pc := 56) dX3_readField_56 kc_iconst_3 ?_
      refine sn_invV (y := m_X3_readField) (pc := 57) ca_3 (av := [vI (3 : Int32)]) (o := p0) (st := []) dX3_readField_57 lk_X3_135 im_X3_takeWord se_X3_takeWord rfl rfl rfl rfl ⟨by decide, by decide⟩ (c_X3_takeWord cx.1 p0 (3 : Int32)) (fun r10 => ?_)
      refine sn_if_eq (y := m_X3_readField) (pc := 60) (tgt := 81) dX3_readField_60 (by decide) (fun _ => ?_) (fun _ => ?_)
      · refine sn_iconst (y := m_X3_readField) (pc := 81) dX3_readField_81 kc_iconst_0 ?_
        exact sn_zreturnC (by decide) rfl dX3_readField_82
      refine sn_aload_n (y := m_X3_readField) (pc := 63) dX3_readField_63 rfl ?_
      refine sn_iload_n (y := m_X3_readField) (pc := 64) dX3_readField_64 rfl ?_
      refine sn_aload_n (y := m_X3_readField) (pc := 65) dX3_readField_65 rfl ?_
      refine sn_getA (y := m_X3_readField) (pc := 66) ca_3 rfl fk_X3_12 (fun _ _ _ => rfl) dX3_readField_66 (fun r11 => ?_)
      refine sn_invV (y := m_X3_readField) (pc := 69) ca_7 (av := []) (o := r11) (st := [vI r9, vA p0]) dX3_readField_69 lk_X3_121 im_X9_wholeNow se_X9_wholeNow rfl rfl rfl rfl ⟨by decide, by decide⟩ (c_X9_wholeNow cx.1 r11) (fun r12 => ?_)
      refine sn_invS (y := m_X3_readField) (pc := 72) (av := [vI r9, vI r12]) (st := [vA p0]) dX3_readField_72 lk_X3_158 sw_X3_isOrderFor rfl rfl rfl ⟨by decide, by decide⟩ (c_X3_isOrderFor cx.1 r9 r12) (fun r13 => ?_)
      refine sn_invV (y := m_X3_readField) (pc := 75) ca_3 (av := [vI r13]) (o := p0) (st := []) dX3_readField_75 lk_X3_154 im_X3_takeWhole se_X3_takeWhole rfl rfl rfl rfl ⟨by decide, by decide⟩ (c_X3_takeWhole cx.1 p0 r13) (fun r14 => ?_)
      refine sn_if_ne (y := m_X3_readField) (pc := 78) (tgt := 83) dX3_readField_78 (by decide) (fun _ => ?_) (fun _ => ?_)
      · refine sn_aload_n (y := m_X3_readField) (pc := 83) dX3_readField_83 rfl ?_
        refine sn_getA (y := m_X3_readField) (pc := 84) ca_3 rfl fk_X3_39 (fun _ _ _ => rfl) dX3_readField_84 (fun r15 => ?_)
        refine sn_aload_n (y := m_X3_readField) (pc := 87) dX3_readField_87 rfl ?_
        refine sn_getJ (y := m_X3_readField) (pc := 88) ca_3 rfl fk_X3_54 (fun _ _ _ => rfl) dX3_readField_88 (fun r16 => ?_)
        refine sn_iload_n (y := m_X3_readField) (pc := 91) dX3_readField_91 rfl ?_
        refine sn_aload_n (y := m_X3_readField) (pc := 92) dX3_readField_92 rfl ?_
        refine sn_getI (y := m_X3_readField) (pc := 93) ca_3 rfl fk_X3_58 (fun _ _ _ => rfl) dX3_readField_93 (fun r17 => ?_)
        refine sn_invV (y := m_X3_readField) (pc := 96) ca_0 (av := [vJ r16, vI r9, vI r17]) (o := r15) (st := []) dX3_readField_96 lk_X3_162 im_X0_tellField se_X0_tellField rfl rfl rfl rfl ⟨by decide, by decide⟩ (c_X0_tellField cx.1 r15 r16 r9 r17) (fun _ => ?_)
        refine sn_iconst (y := m_X3_readField) (pc := 99) dX3_readField_99 kc_iconst_1 ?_
        exact sn_zreturnC (by decide) rfl dX3_readField_100
      refine sn_iconst (y := m_X3_readField) (pc := 81) dX3_readField_81 kc_iconst_0 ?_
      exact sn_zreturnC (by decide) rfl dX3_readField_82
    refine sn_iconst (y := m_X3_readField) (pc := 48) dX3_readField_48 kc_iconst_0 ?_
    exact sn_zreturnC (by decide) rfl dX3_readField_49
  refine sn_aload_n (y := m_X3_readField) (pc := 11) dX3_readField_11 rfl ?_
  refine sn_iconst (y := m_X3_readField) (pc := 12) dX3_readField_12 kc_iconst_5 ?_
  refine sn_invV (y := m_X3_readField) (pc := 13) ca_3 (av := [vI (5 : Int32)]) (o := p0) (st := []) dX3_readField_13 lk_X3_111 im_X3_blame se_X3_blame rfl rfl rfl rfl ⟨by decide, by decide⟩ (c_X3_blame cx.1 p0 (5 : Int32)) (fun r18 => ?_)
  exact sn_zreturn rfl dX3_readField_16
set_option maxRecDepth 100000 in
theorem c_X3_readField (g : Gl) (p0 : (Option Nat)) : Cn g m_X3_readField eI [vA p0] (mCk 3 p0 (f_X3_readField p0)) := cn_of_sn (by decide +kernel) rfl (fun r => ⟨r, rfl⟩) rfl (fun _ _ => sn_ck (s_X3_readField p0))
