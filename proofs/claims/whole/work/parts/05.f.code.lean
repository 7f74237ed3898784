/-! X10_multiplyTurns -/
def f_X10_multiplyTurns_b15 (x0 : (Option Nat)) (x1 : (Option Nat)) (x2 : Int32) (k15 : Int32 → Mo Int32) (x3 : Int32) : Mo Int32 :=
  (if x3 ≥ x2 then mRt (1 : Int32) else mBd (mCk 2 x1 (f_X2_hasTurn x1 x3)) (fun r3 => (if r3 = 0 then k15 (x3 + 1) else mBd (mGetA 8 1 x0) (fun r4 => mBd (mGetA 8 4 x0) (fun r5 => mBd (mGetA 8 5 x0) (fun r6 => mBd (mCk 5 r4 (f_X5_turnRow r4 r5 x3 r6 x2)) (fun _ => mBd (mGetA 8 1 x0) (fun r7 => mBd (mGetA 8 6 x0) (fun r8 => mBd (mGetA 8 5 x0) (fun r9 => mBd (mGetA 8 6 x0) (fun r10 => mBd (mCk 5 r7 (f_X5_multiply r7 r8 r9 r10 x2)) (fun _ => mBd (mGetA 8 5 x0) (fun r11 => mBd (f_X6_isHuge r11) (fun r12 => (if ¬ r12 = 0 then mRt (0 : Int32) else mBd (mGetA 8 6 x0) (fun r13 => mBd (f_X6_isHuge r13) (fun r14 => (if r14 = 0 then k15 (x3 + 1) else mRt (0 : Int32)))))))))))))))))))
def f_X10_multiplyTurns_l15 (x0 : (Option Nat)) (x1 : (Option Nat)) (x2 : Int32) : Int32 → Mo Int32 := lq1 (f_X10_multiplyTurns_b15 x0 x1 x2) fuel
set_option maxRecDepth 100000 in
theorem s_X10_multiplyTurns_b15 {cx : CX} (x0 : (Option Nat)) (x1 : (Option Nat)) (x2 : Int32) {k15 : Int32 → Mo Int32} (hk15 : ∀ (z3 : Int32), Sn cx m_X10_multiplyTurns eI 15 [(3, vI z3), (0, vA x0), (1, vA x1), (2, vI x2)] [] (k15 z3)) (x3 : Int32) : Sn cx m_X10_multiplyTurns eI 15 [(3, vI x3), (0, vA x0), (1, vA x1), (2, vI x2)] [] (f_X10_multiplyTurns_b15 x0 x1 x2 k15 x3) := by
  refine sn_iload_n (y := m_X10_multiplyTurns) (pc := 15) dX10_multiplyTurns_15 rfl ?_
  refine sn_iload_n (y := m_X10_multiplyTurns) (pc := 16) dX10_multiplyTurns_16 rfl ?_
  refine sn_icmp_ge (y := m_X10_multiplyTurns) (pc := 17) (tgt := 93) dX10_multiplyTurns_17 (by decide) (fun _ => ?_) (fun _ => ?_)
  · refine sn_iconst (y := m_X10_multiplyTurns) (pc := 93) dX10_multiplyTurns_93 kc_iconst_1 ?_
    exact sn_zreturnC (by decide) rfl dX10_multiplyTurns_94
  refine sn_aload_n (y := m_X10_multiplyTurns) (pc := 20) dX10_multiplyTurns_20 rfl ?_
  refine sn_iload_n (y := m_X10_multiplyTurns) (pc := 21) dX10_multiplyTurns_21 rfl ?_
  refine sn_invV (y := m_X10_multiplyTurns) (pc := 22) ca_2 (av := [vI x3]) (o := x1) (st := []) dX10_multiplyTurns_22 lk_X10_178 im_X2_hasTurn se_X2_hasTurn rfl rfl rfl rfl ⟨by decide, by decide⟩ (c_X2_hasTurn cx.1 x1 x3) (fun r3 => ?_)
  refine sn_if_eq (y := m_X10_multiplyTurns) (pc := 25) (tgt := 87) dX10_multiplyTurns_25 (by decide) (fun _ => ?_) (fun _ => ?_)
  · refine sn_iinc (y := m_X10_multiplyTurns) (pc := 87) (v := x3 + 1) dX10_multiplyTurns_87 rfl (by rfl) rfl ?_
    refine sn_goto (y := m_X10_multiplyTurns) (pc := 90) (tgt := 15) dX10_multiplyTurns_90 (by decide) ?_
    exact sn_sub rfl (hk15 (x3 + 1))
  refine sn_aload_n (y := m_X10_multiplyTurns) (pc := 28) dX10_multiplyTurns_28 rfl ?_
  refine sn_getA (y := m_X10_multiplyTurns) (pc := 29) ca_8 rfl fk_X10_19 (fun _ _ _ => rfl) dX10_multiplyTurns_29 (fun r4 => ?_)
  refine sn_aload_n (y := m_X10_multiplyTurns) (pc := 32) dX10_multiplyTurns_32 rfl ?_
  refine sn_getA (y := m_X10_multiplyTurns) (pc := 33) ca_8 rfl fk_X10_37 (fun _ _ _ => rfl) dX10_multiplyTurns_33 (fun r5 => ?_)
  refine sn_iload_n (y := m_X10_multiplyTurns) (pc := 36) dX10_multiplyTurns_36 rfl ?_
  refine sn_aload_n (y := m_X10_multiplyTurns) (pc := 37) dX10_multiplyTurns_37 rfl ?_
  refine sn_getA (y := m_X10_multiplyTurns) (pc := 38) ca_8 rfl fk_X10_41 (fun _ _ _ => rfl) dX10_multiplyTurns_38 (fun r6 => ?_)
  refine sn_iload_n (y := m_X10_multiplyTurns) (pc := 41) dX10_multiplyTurns_41 rfl ?_
  refine sn_invV (y := m_X10_multiplyTurns) (pc := 42) ca_5 (av := [vA r5, vI x3, vA r6, vI x2]) (o := r4) (st := []) dX10_multiplyTurns_42 lk_X10_158 im_X5_turnRow se_X5_turnRow rfl rfl rfl rfl ⟨by decide, by decide⟩ (c_X5_turnRow cx.1 r4 r5 x3 r6 x2) (fun _ => ?_)
  refine sn_aload_n (y := m_X10_multiplyTurns) (pc := 45) dX10_multiplyTurns_45 rfl ?_
  refine sn_getA (y := m_X10_multiplyTurns) (pc := 46) ca_8 rfl fk_X10_19 (fun _ _ _ => rfl) dX10_multiplyTurns_46 (fun r7 => ?_)
  refine sn_aload_n (y := m_X10_multiplyTurns) (pc := 49) dX10_multiplyTurns_49 rfl ?_
  refine sn_getA (y := m_X10_multiplyTurns) (pc := 50) ca_8 rfl fk_X10_44 (fun _ _ _ => rfl) dX10_multiplyTurns_50 (fun r8 => ?_)
  refine sn_aload_n (y := m_X10_multiplyTurns) (pc := 53) dX10_multiplyTurns_53 rfl ?_
  refine sn_getA (y := m_X10_multiplyTurns) (pc := 54) ca_8 rfl fk_X10_41 (fun _ _ _ => rfl) dX10_multiplyTurns_54 (fun r9 => ?_)
  refine sn_aload_n (y := m_X10_multiplyTurns) (pc := 57) dX10_multiplyTurns_57 rfl ?_
  refine sn_getA (y := m_X10_multiplyTurns) (pc := 58) ca_8 rfl fk_X10_44 (fun _ _ _ => rfl) dX10_multiplyTurns_58 (fun r10 => ?_)
  refine sn_iload_n (y := m_X10_multiplyTurns) (pc := 61) dX10_multiplyTurns_61 rfl ?_
  refine sn_invV (y := m_X10_multiplyTurns) (pc := 62) ca_5 (av := [vA r8, vA r9, vA r10, vI x2]) (o := r7) (st := []) dX10_multiplyTurns_62 lk_X10_162 im_X5_multiply se_X5_multiply rfl rfl rfl rfl ⟨by decide, by decide⟩ (c_X5_multiply cx.1 r7 r8 r9 r10 x2) (fun _ => ?_)
  refine sn_aload_n (y := m_X10_multiplyTurns) (pc := 65) dX10_multiplyTurns_65 rfl ?_
  refine sn_getA (y := m_X10_multiplyTurns) (pc := 66) ca_8 rfl fk_X10_41 (fun _ _ _ => rfl) dX10_multiplyTurns_66 (fun r11 => ?_)
  refine sn_invS (y := m_X10_multiplyTurns) (pc := 69) (av := [vA r11]) (st := []) dX10_multiplyTurns_69 lk_X10_328 sw_X6_isHuge rfl rfl rfl ⟨by decide, by decide⟩ (c_X6_isHuge cx.1 r11) (fun r12 => ?_)
  refine sn_if_ne (y := m_X10_multiplyTurns) (pc := 72) (tgt := 85) dX10_multiplyTurns_72 (by decide) (fun _ => ?_) (fun _ => ?_)
  · refine sn_iconst (y := m_X10_multiplyTurns) (pc := 85) dX10_multiplyTurns_85 kc_iconst_0 ?_
    exact sn_zreturnC (by decide) rfl dX10_multiplyTurns_86
  refine sn_aload_n (y := m_X10_multiplyTurns) (pc := 75) dX10_multiplyTurns_75 rfl ?_
  refine sn_getA (y := m_X10_multiplyTurns) (pc := 76) ca_8 rfl fk_X10_44 (fun _ _ _ => rfl) dX10_multiplyTurns_76 (fun r13 => ?_)
  refine sn_invS (y := m_X10_multiplyTurns) (pc := 79) (av := [vA r13]) (st := []) dX10_multiplyTurns_79 lk_X10_328 sw_X6_isHuge rfl rfl rfl ⟨by decide, by decide⟩ (c_X6_isHuge cx.1 r13) (fun r14 => ?_)
  refine sn_if_eq (y := m_X10_multiplyTurns) (pc := 82) (tgt := 87) dX10_multiplyTurns_82 (by decide) (fun _ => ?_) (fun _ => ?_)
  · refine sn_iinc (y := m_X10_multiplyTurns) (pc := 87) (v := x3 + 1) dX10_multiplyTurns_87 rfl (by rfl) rfl ?_
    refine sn_goto (y := m_X10_multiplyTurns) (pc := 90) (tgt := 15) dX10_multiplyTurns_90 (by decide) ?_
    exact sn_sub rfl (hk15 (x3 + 1))
  refine sn_iconst (y := m_X10_multiplyTurns) (pc := 85) dX10_multiplyTurns_85 kc_iconst_0 ?_
  exact sn_zreturnC (by decide) rfl dX10_multiplyTurns_86
set_option maxRecDepth 100000 in
theorem s_X10_multiplyTurns_l15 {cx : CX} (x0 : (Option Nat)) (x1 : (Option Nat)) (x2 : Int32) (x3 : Int32) : Sn cx m_X10_multiplyTurns eI 15 [(3, vI x3), (0, vA x0), (1, vA x1), (2, vI x2)] [] (f_X10_multiplyTurns_l15 x0 x1 x2 x3) :=
  sn_lq1 (L := fun x3 => [(3, vI x3), (0, vA x0), (1, vA x1), (2, vI x2)]) (fun k hk x3 => s_X10_multiplyTurns_b15 x0 x1 x2 hk x3) fuel x3
def f_X10_multiplyTurns (p0 : (Option Nat)) (p1 : (Option Nat)) : Mo Int32 :=
  mBd (mCk 2 p1 (f_X2_order p1)) (fun r1 => mBd (mGetA 8 6 p0) (fun r2 => mBd (f_X6_setWhole r2 (1 : Int64)) (fun _ => f_X10_multiplyTurns_l15 p0 p1 r1 (1 : Int32))))
set_option maxRecDepth 100000 in
theorem s_X10_multiplyTurns {cx : CX} (p0 : (Option Nat)) (p1 : (Option Nat)) : Sn cx m_X10_multiplyTurns eI 0 [(0, vA p0), (1, vA p1)] [] (f_X10_multiplyTurns p0 p1) := by
  refine sn_aload_n (y := m_X10_multiplyTurns) (pc := 0) dX10_multiplyTurns_0 rfl ?_
  refine sn_invV (y := m_X10_multiplyTurns) (pc := 1) ca_2 (av := []) (o := p1) (st := []) dX10_multiplyTurns_1 lk_X10_120 im_X2_order se_X2_order rfl rfl rfl rfl ⟨by decide, by decide⟩ (c_X2_order cx.1 p1) (fun r1 => ?_)
  refine sn_istore_n (y := m_X10_multiplyTurns) (pc := 4) dX10_multiplyTurns_4 rfl ?_
  refine sn_aload_n (y := m_X10_multiplyTurns) (pc := 5) dX10_multiplyTurns_5 rfl ?_
  refine sn_getA (y := m_X10_multiplyTurns) (pc := 6) ca_8 rfl fk_X10_44 (fun _ _ _ => rfl) dX10_multiplyTurns_6 (fun r2 => ?_)
  refine sn_lconst (y := m_X10_multiplyTurns) (pc := 9) dX10_multiplyTurns_9 kc_lconst_1 ?_
  refine sn_invS (y := m_X10_multiplyTurns) (pc := 10) (av := [vA r2, vJ (1 : Int64)]) (st := []) dX10_multiplyTurns_10 lk_X10_334 sw_X6_setWhole rfl rfl rfl ⟨by decide, by decide⟩ (c_X6_setWhole cx.1 r2 (1 : Int64)) (fun _ => ?_)
  refine sn_iconst (y := m_X10_multiplyTurns) (pc := 13) dX10_multiplyTurns_13 kc_iconst_1 ?_
  refine sn_istore_n (y := m_X10_multiplyTurns) (pc := 14) dX10_multiplyTurns_14 rfl ?_
  exact sn_sub rfl (s_X10_multiplyTurns_l15 p0 p1 r1 (1 : Int32))
set_option maxRecDepth 100000 in
theorem c_X10_multiplyTurns (g : Gl) (p0 : (Option Nat)) (p1 : (Option Nat)) : Cn g m_X10_multiplyTurns eI [vA p0, vA p1] (mCk 8 p0 (f_X10_multiplyTurns p0 p1)) := cn_of_sn (by decide +kernel) rfl (fun r => ⟨r, rfl⟩) rfl (fun _ _ => sn_ck (s_X10_multiplyTurns p0 p1))
/-! X10_size -/
def f_X10_size (p0 : (Option Nat)) (p1 : Int32) : Mo Int64 :=
  mBd (mCk 8 p0 (f_X10_fieldOfRegister p0 p1)) (fun r1 => (if r1 = none then mBd (mPutI 8 11 p0 (1 : Int32)) (fun _ => mRt (-9223372036854775808 : Int64)) else mBd (mGetA 8 2 p0) (fun r2 => mBd (mGetA 8 4 p0) (fun r3 => mBd (mCk 4 r2 (f_X4_copyOut r2 p1 r3)) (fun _ => mBd (mCk 8 p0 (f_X10_multiplyTurns p0 r1)) (fun r4 => (if ¬ r4 = 0 then mBd (mPutI 8 11 p0 (0 : Int32)) (fun _ => mBd (mGetA 8 6 p0) (fun r5 => mBd (f_X6_at r5 (0 : Int32)) (fun r6 => mRt r6))) else mBd (mPutI 8 11 p0 (7 : Int32)) (fun _ => mRt (-9223372036854775808 : Int64)))))))))
set_option maxRecDepth 100000 in
theorem s_X10_size {cx : CX} (p0 : (Option Nat)) (p1 : Int32) : Sn cx m_X10_size eJ 0 [(0, vA p0), (1, vI p1)] [] (f_X10_size p0 p1) := by
  refine sn_aload_n (y := m_X10_size) (pc := 0) dX10_size_0 rfl ?_
  refine sn_iload_n (y := m_X10_size) (pc := 1) dX10_size_1 rfl ?_
  refine sn_invV (y := m_X10_size) (pc := 2) ca_8 (av := [vI p1]) (o := p0) (st := []) dX10_size_2 lk_X10_264 im_X10_fieldOfRegister se_X10_fieldOfRegister rfl rfl rfl rfl ⟨by decide, by decide⟩ (c_X10_fieldOfRegister cx.1 p0 p1) (fun r1 => ?_)
  refine sn_astore_n (y := m_X10_size) (pc := 5) dX10_size_5 rfl ?_
  refine sn_aload_n (y := m_X10_size) (pc := 6) dX10_size_6 rfl ?_
  refine sn_ifnonnull (y := m_X10_size) (pc := 7) (tgt := 19) dX10_size_7 (by decide) ?_ ?_
  · refine sn_aload_n (y := m_X10_size) (pc := 10) dX10_size_10 rfl ?_
    refine sn_iconst (y := m_X10_size) (pc := 11) dX10_size_11 kc_iconst_1 ?_
    refine sn_putI (y := m_X10_size) (pc := 12) ca_8 rfl fk_X10_64 (Or.inl rfl) rfl dX10_size_12 ?_
    refine sn_ldcJ (y := m_X10_size) (pc := 15) kj_X10_282 dX10_size_15 ?_
    exact sn_lreturn rfl dX10_size_18
  refine sn_aload_n (y := m_X10_size) (pc := 19) dX10_size_19 rfl ?_
  refine sn_getA (y := m_X10_size) (pc := 20) ca_8 rfl fk_X10_26 (fun _ _ _ => rfl) dX10_size_20 (fun r2 => ?_)
  refine sn_iload_n (y := m_X10_size) (pc := 23) dX10_size_23 rfl ?_
  refine sn_aload_n (y := m_X10_size) (pc := 24) dX10_size_24 rfl ?_
  refine sn_getA (y := m_X10_size) (pc := 25) ca_8 rfl fk_X10_37 (fun _ _ _ => rfl) dX10_size_25 (fun r3 => ?_)
  refine sn_invV (y := m_X10_size) (pc := 28) ca_4 (av := [vI p1, vA r3]) (o := r2) (st := []) dX10_size_28 lk_X10_267 im_X4_copyOut se_X4_copyOut rfl rfl rfl rfl ⟨by decide, by decide⟩ (c_X4_copyOut cx.1 r2 p1 r3) (fun _ => ?_)
  refine sn_aload_n (y := m_X10_size) (pc := 31) dX10_size_31 rfl ?_
  refine sn_aload_n (y := m_X10_size) (pc := 32) dX10_size_32 rfl ?_
  refine sn_invV (y := m_X10_size) (pc := 33) ca_8 (av := [vA r1]) (o := p0) (st := []) dX10_size_33 lk_X10_284 im_X10_multiplyTurns se_X10_multiplyTurns rfl rfl rfl rfl ⟨by decide, by decide⟩ (c_X10_multiplyTurns cx.1 p0 r1) (fun r4 => ?_)
  refine sn_if_ne (y := m_X10_size) (pc := 36) (tgt := 49) dX10_size_36 (by decide) (fun _ => ?_) (fun _ => ?_)
  · refine sn_aload_n (y := m_X10_size) (pc := 49) dX10_size_49 rfl ?_
    refine sn_iconst (y := m_X10_size) (pc := 50) dX10_size_50 kc_iconst_0 ?_
    refine sn_putI (y := m_X10_size) (pc := 51) ca_8 rfl fk_X10_64 (Or.inl rfl) rfl dX10_size_51 ?_
    refine sn_aload_n (y := m_X10_size) (pc := 54) dX10_size_54 rfl ?_
    refine sn_getA (y := m_X10_size) (pc := 55) ca_8 rfl fk_X10_44 (fun _ _ _ => rfl) dX10_size_55 (fun r5 => ?_)
    refine sn_iconst (y := m_X10_size) (pc := 58) dX10_size_58 kc_iconst_0 ?_
    refine sn_invS (y := m_X10_size) (pc := 59) (av := [vA r5, vI (0 : Int32)]) (st := []) dX10_size_59 lk_X10_152 sw_X6_at rfl rfl rfl ⟨by decide, by decide⟩ (c_X6_at cx.1 r5 (0 : Int32)) (fun r6 => ?_)
    exact sn_lreturn rfl dX10_size_62
  refine sn_aload_n (y := m_X10_size) (pc := 39) dX10_size_39 rfl ?_
  refine sn_bipush (y := m_X10_size) (pc := 40) dX10_size_40 kc_bipush_7 ?_
  refine sn_putI (y := m_X10_size) (pc := 42) ca_8 rfl fk_X10_64 (Or.inl rfl) rfl dX10_size_42 ?_
  refine sn_ldcJ (y := m_X10_size) (pc := 45) kj_X10_282 dX10_size_45 ?_
  exact sn_lreturn rfl dX10_size_48
set_option maxRecDepth 100000 in
theorem c_X10_size (g : Gl) (p0 : (Option Nat)) (p1 : Int32) : Cn g m_X10_size eJ [vA p0, vI p1] (mCk 8 p0 (f_X10_size p0 p1)) := cn_of_sn (by decide +kernel) rfl (fun r => ⟨r, rfl⟩) rfl (fun _ _ => sn_ck (s_X10_size p0 p1))
/-! X10_undo -/
def f_X10_undo (p0 : (Option Nat)) : Mo Int32 :=
  mBd (mGetA 8 2 p0) (fun r1 => mBd (mCk 4 r1 (f_X4_stepBack r1)) (fun r2 => (if r2 = 0 then mBd (mCk 8 p0 (f_X10_denied p0 (6 : Int32))) (fun r3 => mRq (r3 = 0 ∨ r3 = 1) (mRt r3)) else mBd (mCk 8 p0 (f_X10_granted p0)) (fun r4 => mRq (r4 = 0 ∨ r4 = 1) (mRt r4)))))
set_option maxRecDepth 100000 in
theorem s_X10_undo {cx : CX} (p0 : (Option Nat)) : Sn cx m_X10_undo eI 0 [(0, vA p0)] [] (f_X10_undo p0) := by
  refine sn_aload_n (y := m_X10_undo) (pc := 0) dX10_undo_0 rfl ?_
  refine sn_getA (y := m_X10_undo) (pc := 1) ca_8 rfl fk_X10_26 (fun _ _ _ => rfl) dX10_undo_1 (fun r1 => ?_)
  refine sn_invV (y := m_X10_undo) (pc := 4) ca_4 (av := []) (o := r1) (st := []) dX10_undo_4 lk_X10_288 im_X4_stepBack se_X4_stepBack rfl rfl rfl rfl ⟨by decide, by decide⟩ (c_X4_stepBack cx.1 r1) (fun r2 => ?_)
  refine sn_if_eq (y := m_X10_undo) (pc := 7) (tgt := 17) dX10_undo_7 (by decide) (fun _ => ?_) (fun _ => ?_)
  · refine sn_aload_n (y := m_X10_undo) (pc := 17) dX10_undo_17 rfl ?_
    refine sn_bipush (y := m_X10_undo) (pc := 18) dX10_undo_18 kc_bipush_6 ?_
    refine sn_invV (y := m_X10_undo) (pc := 20) ca_8 (av := [vI (6 : Int32)]) (o := p0) (st := []) dX10_undo_20 lk_X10_251 im_X10_denied se_X10_denied rfl rfl rfl rfl ⟨by decide, by decide⟩ (c_X10_denied cx.1 p0 (6 : Int32)) (fun r3 => ?_)
    exact sn_zreturn rfl dX10_undo_23
  refine sn_aload_n (y := m_X10_undo) (pc := 10) dX10_undo_10 rfl ?_
  refine sn_invV (y := m_X10_undo) (pc := 11) ca_8 (av := []) (o := p0) (st := []) dX10_undo_11 lk_X10_260 im_X10_granted se_X10_granted rfl rfl rfl rfl ⟨by decide, by decide⟩ (c_X10_granted cx.1 p0) (fun r4 => ?_)
  refine sn_goto (y := m_X10_undo) (pc := 14) (tgt := 23) dX10_undo_14 (by decide) ?_
  exact sn_zreturn rfl dX10_undo_23
set_option maxRecDepth 100000 in
theorem c_X10_undo (g : Gl) (p0 : (Option Nat)) : Cn g m_X10_undo eI [vA p0] (mCk 8 p0 (f_X10_undo p0)) := cn_of_sn (by decide +kernel) rfl (fun r => ⟨r, rfl⟩) rfl (fun _ _ => sn_ck (s_X10_undo p0))
/-! X10_redo -/
def f_X10_redo (p0 : (Option Nat)) : Mo Int32 :=
  mBd (mGetA 8 2 p0) (fun r1 => mBd (mCk 4 r1 (f_X4_stepOn r1)) (fun r2 => (if r2 = 0 then mBd (mCk 8 p0 (f_X10_denied p0 (6 : Int32))) (fun r3 => mRq (r3 = 0 ∨ r3 = 1) (mRt r3)) else mBd (mCk 8 p0 (f_X10_granted p0)) (fun r4 => mRq (r4 = 0 ∨ r4 = 1) (mRt r4)))))
set_option maxRecDepth 100000 in
theorem s_X10_redo {cx : CX} (p0 : (Option Nat)) : Sn cx m_X10_redo eI 0 [(0, vA p0)] [] (f_X10_redo p0) := by
  refine sn_aload_n (y := m_X10_redo) (pc := 0) dX10_redo_0 rfl ?_
  refine sn_getA (y := m_X10_redo) (pc := 1) ca_8 rfl fk_X10_26 (fun _ _ _ => rfl) dX10_redo_1 (fun r1 => ?_)
  refine sn_invV (y := m_X10_redo) (pc := 4) ca_4 (av := []) (o := r1) (st := []) dX10_redo_4 lk_X10_291 im_X4_stepOn se_X4_stepOn rfl rfl rfl rfl ⟨by decide, by decide⟩ (c_X4_stepOn cx.1 r1) (fun r2 => ?_)
  refine sn_if_eq (y := m_X10_redo) (pc := 7) (tgt := 17) dX10_redo_7 (by decide) (fun _ => ?_) (fun _ => ?_)
  · refine sn_aload_n (y := m_X10_redo) (pc := 17) dX10_redo_17 rfl ?_
    refine sn_bipush (y := m_X10_redo) (pc := 18) dX10_redo_18 kc_bipush_6 ?_
    refine sn_invV (y := m_X10_redo) (pc := 20) ca_8 (av := [vI (6 : Int32)]) (o := p0) (st := []) dX10_redo_20 lk_X10_251 im_X10_denied se_X10_denied rfl rfl rfl rfl ⟨by decide, by decide⟩ (c_X10_denied cx.1 p0 (6 : Int32)) (fun r3 => ?_)
    exact sn_zreturn rfl dX10_redo_23
  refine sn_aload_n (y := m_X10_redo) (pc := 10) dX10_redo_10 rfl ?_
  refine sn_invV (y := m_X10_redo) (pc := 11) ca_8 (av := []) (o := p0) (st := []) dX10_redo_11 lk_X10_260 im_X10_granted se_X10_granted rfl rfl rfl rfl ⟨by decide, by decide⟩ (c_X10_granted cx.1 p0) (fun r4 => ?_)
  refine sn_goto (y := m_X10_redo) (pc := 14) (tgt := 23) dX10_redo_14 (by decide) ?_
  exact sn_zreturn rfl dX10_redo_23
set_option maxRecDepth 100000 in
theorem c_X10_redo (g : Gl) (p0 : (Option Nat)) : Cn g m_X10_redo eI [vA p0] (mCk 8 p0 (f_X10_redo p0)) := cn_of_sn (by decide +kernel) rfl (fun r => ⟨r, rfl⟩) rfl (fun _ _ => sn_ck (s_X10_redo p0))
/-! X10_image -/
def f_X10_image (p0 : (Option Nat)) : Mo Int32 :=
  mBd (mGetA 8 8 p0) (fun r1 => mBd (mCk 0 r1 (f_X0_fieldsHeld r1)) (fun r2 => (if ¬ r2 = 0 then mBd (mGetA 8 2 p0) (fun r3 => mBd (mCk 4 r3 (f_X4_imagesHeld r3)) (fun r4 => mBd (mGetA 8 2 p0) (fun r5 => mBd (mCk 4 r5 (f_X4_keepImage r5)) (fun r6 => (if r6 = 0 then mBd (mCk 8 p0 (f_X10_refused p0 (3 : Int32) (-1 : Int32))) (fun r7 => mRt r7) else mBd (mCk 8 p0 (f_X10_answered p0 r4)) (fun r8 => mRt r8)))))) else mBd (mCk 8 p0 (f_X10_refused p0 (1 : Int32) (-1 : Int32))) (fun r9 => mRt r9))))
set_option maxRecDepth 100000 in
theorem s_X10_image {cx : CX} (p0 : (Option Nat)) : Sn cx m_X10_image eI 0 [(0, vA p0)] [] (f_X10_image p0) := by
  refine sn_aload_n (y := m_X10_image) (pc := 0) dX10_image_0 rfl ?_
  refine sn_getA (y := m_X10_image) (pc := 1) ca_8 rfl fk_X10_53 (fun _ _ _ => rfl) dX10_image_1 (fun r1 => ?_)
  refine sn_invV (y := m_X10_image) (pc := 4) ca_0 (av := []) (o := r1) (st := []) dX10_image_4 lk_X10_105 im_X0_fieldsHeld se_X0_fieldsHeld rfl rfl rfl rfl ⟨by decide, by decide⟩ (c_X0_fieldsHeld cx.1 r1) (fun r2 => ?_)
  refine sn_if_ne (y := m_X10_image) (pc := 7) (tgt := 17) dX10_image_7 (by decide) (fun _ => ?_) (fun _ => ?_)
  · refine sn_aload_n (y := m_X10_image) (pc := 17) dX10_image_17 rfl ?_
    refine sn_getA (y := m_X10_image) (pc := 18) ca_8 rfl fk_X10_26 (fun _ _ _ => rfl) dX10_image_18 (fun r3 => ?_)
    refine sn_invV (y := m_X10_image) (pc := 21) ca_4 (av := []) (o := r3) (st := []) dX10_image_21 lk_X10_294 im_X4_imagesHeld se_X4_imagesHeld rfl rfl rfl rfl ⟨by decide, by decide⟩ (c_X4_imagesHeld cx.1 r3) (fun r4 => ?_)
    refine sn_istore_n (y := m_X10_image) (pc := 24) dX10_image_24 rfl ?_
    refine sn_aload_n (y := m_X10_image) (pc := 25) dX10_image_25 rfl ?_
    refine sn_getA (y := m_X10_image) (pc := 26) ca_8 rfl fk_X10_26 (fun _ _ _ => rfl) dX10_image_26 (fun r5 => ?_)
    refine sn_invV (y := m_X10_image) (pc := 29) ca_4 (av := []) (o := r5) (st := []) dX10_image_29 lk_X10_297 im_X4_keepImage se_X4_keepImage rfl rfl rfl rfl ⟨by decide, by decide⟩ (c_X4_keepImage cx.1 r5) (fun r6 => ?_)
    refine sn_if_eq (y := m_X10_image) (pc := 32) (tgt := 43) dX10_image_32 (by decide) (fun _ => ?_) (fun _ => ?_)
    · refine sn_aload_n (y := m_X10_image) (pc := 43) dX10_image_43 rfl ?_
      refine sn_iconst (y := m_X10_image) (pc := 44) dX10_image_44 kc_iconst_3 ?_
      refine sn_iconst (y := m_X10_image) (pc := 45) dX10_image_45 kc_iconst_m1 ?_
      refine sn_invV (y := m_X10_image) (pc := 46) ca_8 (av := [vI (3 : Int32), vI (-1 : Int32)]) (o := p0) (st := []) dX10_image_46 lk_X10_85 im_X10_refused se_X10_refused rfl rfl rfl rfl ⟨by decide, by decide⟩ (c_X10_refused cx.1 p0 (3 : Int32) (-1 : Int32)) (fun r7 => ?_)
      exact sn_ireturn rfl dX10_image_49
    refine sn_aload_n (y := m_X10_image) (pc := 35) dX10_image_35 rfl ?_
    refine sn_iload_n (y := m_X10_image) (pc := 36) dX10_image_36 rfl ?_
    refine sn_invV (y := m_X10_image) (pc := 37) ca_8 (av := [vI r4]) (o := p0) (st := []) dX10_image_37 lk_X10_108 im_X10_answered se_X10_answered rfl rfl rfl rfl ⟨by decide, by decide⟩ (c_X10_answered cx.1 p0 r4) (fun r8 => ?_)
    refine sn_goto (y := m_X10_image) (pc := 40) (tgt := 49) dX10_image_40 (by decide) ?_
    exact sn_ireturn rfl dX10_image_49
  refine sn_aload_n (y := m_X10_image) (pc := 10) dX10_image_10 rfl ?_
  refine sn_iconst (y := m_X10_image) (pc := 11) dX10_image_11 kc_iconst_1 ?_
  refine sn_iconst (y := m_X10_image) (pc := 12) dX10_image_12 kc_iconst_m1 ?_
  refine sn_invV (y := m_X10_image) (pc := 13) ca_8 (av := [vI (1 : Int32), vI (-1 : Int32)]) (o := p0) (st := []) dX10_image_13 lk_X10_85 im_X10_refused se_X10_refused rfl rfl rfl rfl ⟨by decide, by decide⟩ (c_X10_refused cx.1 p0 (1 : Int32) (-1 : Int32)) (fun r9 => ?_)
  exact sn_ireturn rfl dX10_image_16
set_option maxRecDepth 100000 in
theorem c_X10_image (g : Gl) (p0 : (Option Nat)) : Cn g m_X10_image eI [vA p0] (mCk 8 p0 (f_X10_image p0)) := cn_of_sn (by decide +kernel) rfl (fun r => ⟨r, rfl⟩) rfl (fun _ _ => sn_ck (s_X10_image p0))
/-! X10_restore -/
def f_X10_restore (p0 : (Option Nat)) (p1 : Int32) : Mo Int32 :=
  (if p1 < 0 then mBd (mCk 8 p0 (f_X10_denied p0 (1 : Int32))) (fun r1 => mRq (r1 = 0 ∨ r1 = 1) (mRt r1)) else mBd (mGetA 8 2 p0) (fun r2 => mBd (mCk 4 r2 (f_X4_imagesHeld r2)) (fun r3 => (if p1 < r3 then mBd (mGetA 8 2 p0) (fun r4 => mBd (mCk 4 r4 (f_X4_beginAct r4)) (fun _ => mBd (mGetA 8 2 p0) (fun r5 => mBd (mCk 4 r5 (f_X4_bringBack r5 p1)) (fun _ => mBd (mCk 8 p0 (f_X10_granted p0)) (fun r6 => mRq (r6 = 0 ∨ r6 = 1) (mRt r6)))))) else mBd (mCk 8 p0 (f_X10_denied p0 (1 : Int32))) (fun r7 => mRq (r7 = 0 ∨ r7 = 1) (mRt r7))))))
set_option maxRecDepth 100000 in
theorem s_X10_restore {cx : CX} (p0 : (Option Nat)) (p1 : Int32) : Sn cx m_X10_restore eI 0 [(0, vA p0), (1, vI p1)] [] (f_X10_restore p0 p1) := by
  refine sn_iload_n (y := m_X10_restore) (pc := 0) dX10_restore_0 rfl ?_
  refine sn_if_lt (y := m_X10_restore) (pc := 1) (tgt := 15) dX10_restore_1 (by decide) (fun _ => ?_) (fun _ => ?_)
  · refine sn_aload_n (y := m_X10_restore) (pc := 15) dX10_restore_15 rfl ?_
    refine sn_iconst (y := m_X10_restore) (pc := 16) dX10_restore_16 kc_iconst_1 ?_
    refine sn_invV (y := m_X10_restore) (pc := 17) ca_8 (av := [vI (1 : Int32)]) (o := p0) (st := []) dX10_restore_17 lk_X10_251 im_X10_denied se_X10_denied rfl rfl rfl rfl ⟨by decide, by decide⟩ (c_X10_denied cx.1 p0 (1 : Int32)) (fun r1 => ?_)
    exact sn_zreturn rfl dX10_restore_20
  refine sn_iload_n (y := m_X10_restore) (pc := 4) dX10_restore_4 rfl ?_
  refine sn_aload_n (y := m_X10_restore) (pc := 5) dX10_restore_5 rfl ?_
  refine sn_getA (y := m_X10_restore) (pc := 6) ca_8 rfl fk_X10_26 (fun _ _ _ => rfl) dX10_restore_6 (fun r2 => ?_)
  refine sn_invV (y := m_X10_restore) (pc := 9) ca_4 (av := []) (o := r2) (st := [vI p1]) dX10_restore_9 lk_X10_294 im_X4_imagesHeld se_X4_imagesHeld rfl rfl rfl rfl ⟨by decide, by decide⟩ (c_X4_imagesHeld cx.1 r2) (fun r3 => ?_)
  refine sn_icmp_lt (y := m_X10_restore) (pc := 12) (tgt := 21) dX10_restore_12 (by decide) (fun _ => ?_) (fun _ => ?_)
  · refine sn_aload_n (y := m_X10_restore) (pc := 21) dX10_restore_21 rfl ?_
    refine sn_getA (y := m_X10_restore) (pc := 22) ca_8 rfl fk_X10_26 (fun _ _ _ => rfl) dX10_restore_22 (fun r4 => ?_)
    refine sn_invV (y := m_X10_restore) (pc := 25) ca_4 (av := []) (o := r4) (st := []) dX10_restore_25 lk_X10_254 im_X4_beginAct se_X4_beginAct rfl rfl rfl rfl ⟨by decide, by decide⟩ (c_X4_beginAct cx.1 r4) (fun _ => ?_)
    refine sn_aload_n (y := m_X10_restore) (pc := 28) dX10_restore_28 rfl ?_
    refine sn_getA (y := m_X10_restore) (pc := 29) ca_8 rfl fk_X10_26 (fun _ _ _ => rfl) dX10_restore_29 (fun r5 => ?_)
    refine sn_iload_n (y := m_X10_restore) (pc := 32) dX10_restore_32 rfl ?_
    refine sn_invV (y := m_X10_restore) (pc := 33) ca_4 (av := [vI p1]) (o := r5) (st := []) dX10_restore_33 lk_X10_300 im_X4_bringBack se_X4_bringBack rfl rfl rfl rfl ⟨by decide, by decide⟩ (c_X4_bringBack cx.1 r5 p1) (fun _ => ?_)
    refine sn_aload_n (y := m_X10_restore) (pc := 36) dX10_restore_36 rfl ?_
    refine sn_invV (y := m_X10_restore) (pc := 37) ca_8 (av := []) (o := p0) (st := []) dX10_restore_37 lk_X10_260 im_X10_granted se_X10_granted rfl rfl rfl rfl ⟨by decide, by decide⟩ (c_X10_granted cx.1 p0) (fun r6 => ?_)
    exact sn_zreturn rfl dX10_restore_40
  refine sn_aload_n (y := m_X10_restore) (pc := 15) dX10_restore_15 rfl ?_
  refine sn_iconst (y := m_X10_restore) (pc := 16) dX10_restore_16 kc_iconst_1 ?_
  refine sn_invV (y := m_X10_restore) (pc := 17) ca_8 (av := [vI (1 : Int32)]) (o := p0) (st := []) dX10_restore_17 lk_X10_251 im_X10_denied se_X10_denied rfl rfl rfl rfl ⟨by decide, by decide⟩ (c_X10_denied cx.1 p0 (1 : Int32)) (fun r7 => ?_)
  exact sn_zreturn rfl dX10_restore_20
set_option maxRecDepth 100000 in
theorem c_X10_restore (g : Gl) (p0 : (Option Nat)) (p1 : Int32) : Cn g m_X10_restore eI [vA p0, vI p1] (mCk 8 p0 (f_X10_restore p0 p1)) := cn_of_sn (by decide +kernel) rfl (fun r => ⟨r, rfl⟩) rfl (fun _ _ => sn_ck (s_X10_restore p0 p1))
/-! X10_told -/
def f_X10_told (p0 : (Option Nat)) (p1 : Int32) : Mo Int32 :=
  (if p1 = (0 : Int32) then mBd (mGetA 8 8 p0) (fun r1 => mBd (mCk 0 r1 (f_X0_fieldsHeld r1)) (fun r2 => mRt r2)) else (if p1 = (1 : Int32) then mBd (mGetA 8 8 p0) (fun r3 => mBd (mCk 0 r3 (f_X0_equationsHeld r3)) (fun r4 => mRt r4)) else (if p1 = (2 : Int32) then mBd (mGetA 8 8 p0) (fun r5 => mBd (mCk 0 r5 (f_X0_letsHeld r5)) (fun r6 => mRt r6)) else (if p1 = (3 : Int32) then mBd (mGetA 8 2 p0) (fun r7 => mBd (mCk 4 r7 (f_X4_fieldNow r7)) (fun r8 => mRt r8)) else (if p1 = (4 : Int32) then mBd (mGetA 8 2 p0) (fun r9 => mBd (mCk 4 r9 (f_X4_actsToUndo r9)) (fun r10 => mRt r10)) else (if p1 = (5 : Int32) then mBd (mGetA 8 2 p0) (fun r11 => mBd (mCk 4 r11 (f_X4_actsToRedo r11)) (fun r12 => mRt r12)) else (if p1 = (6 : Int32) then mBd (mGetA 8 2 p0) (fun r13 => mBd (mCk 4 r13 (f_X4_imagesHeld r13)) (fun r14 => mRt r14)) else (if p1 = (7 : Int32) then mBd (mGetA 8 0 p0) (fun r15 => mBd (mCk 3 r15 (f_X3_tape r15)) (fun r16 => mBd (mCk 7 r16 (f_X9_bytesHeld r16)) (fun r17 => mRt r17))) else mRt (-1 : Int32)))))))))
set_option maxRecDepth 100000 in
theorem s_X10_told {cx : CX} (p0 : (Option Nat)) (p1 : Int32) : Sn cx m_X10_told eI 0 [(0, vA p0), (1, vI p1)] [] (f_X10_told p0 p1) := by
  refine sn_iload_n (y := m_X10_told) (pc := 0) dX10_told_0 rfl ?_
  refine sn_tabC (y := m_X10_told) (pc := 1) (v := (0 : Int32)) (n := 0) (tgt := 48) (off := 47) dX10_told_1 (by decide) (by decide) rfl (by decide) ?_ (fun h0 => ?_)
  · refine sn_aload_n (y := m_X10_told) (pc := 48) dX10_told_48 rfl ?_
    refine sn_getA (y := m_X10_told) (pc := 49) ca_8 rfl fk_X10_53 (fun _ _ _ => rfl) dX10_told_49 (fun r1 => ?_)
    refine sn_invV (y := m_X10_told) (pc := 52) ca_0 (av := []) (o := r1) (st := []) dX10_told_52 lk_X10_105 im_X0_fieldsHeld se_X0_fieldsHeld rfl rfl rfl rfl ⟨by decide, by decide⟩ (c_X0_fieldsHeld cx.1 r1) (fun r2 => ?_)
    exact sn_ireturn rfl dX10_told_55
  refine sn_tabC (v := (1 : Int32)) (n := 1) (tgt := 56) (off := 55) dX10_told_1 (by decide) (by decide) rfl (by decide) ?_ (fun h1 => ?_)
  · refine sn_aload_n (y := m_X10_told) (pc := 56) dX10_told_56 rfl ?_
    refine sn_getA (y := m_X10_told) (pc := 57) ca_8 rfl fk_X10_53 (fun _ _ _ => rfl) dX10_told_57 (fun r3 => ?_)
    refine sn_invV (y := m_X10_told) (pc := 60) ca_0 (av := []) (o := r3) (st := []) dX10_told_60 lk_X10_313 im_X0_equationsHeld se_X0_equationsHeld rfl rfl rfl rfl ⟨by decide, by decide⟩ (c_X0_equationsHeld cx.1 r3) (fun r4 => ?_)
    exact sn_ireturn rfl dX10_told_63
  refine sn_tabC (v := (2 : Int32)) (n := 2) (tgt := 64) (off := 63) dX10_told_1 (by decide) (by decide) rfl (by decide) ?_ (fun h2 => ?_)
  · refine sn_aload_n (y := m_X10_told) (pc := 64) dX10_told_64 rfl ?_
    refine sn_getA (y := m_X10_told) (pc := 65) ca_8 rfl fk_X10_53 (fun _ _ _ => rfl) dX10_told_65 (fun r5 => ?_)
    refine sn_invV (y := m_X10_told) (pc := 68) ca_0 (av := []) (o := r5) (st := []) dX10_told_68 lk_X10_316 im_X0_letsHeld se_X0_letsHeld rfl rfl rfl rfl ⟨by decide, by decide⟩ (c_X0_letsHeld cx.1 r5) (fun r6 => ?_)
    exact sn_ireturn rfl dX10_told_71
  refine sn_tabC (v := (3 : Int32)) (n := 3) (tgt := 72) (off := 71) dX10_told_1 (by decide) (by decide) rfl (by decide) ?_ (fun h3 => ?_)
  · refine sn_aload_n (y := m_X10_told) (pc := 72) dX10_told_72 rfl ?_
    refine sn_getA (y := m_X10_told) (pc := 73) ca_8 rfl fk_X10_26 (fun _ _ _ => rfl) dX10_told_73 (fun r7 => ?_)
    refine sn_invV (y := m_X10_told) (pc := 76) ca_4 (av := []) (o := r7) (st := []) dX10_told_76 lk_X10_271 im_X4_fieldNow se_X4_fieldNow rfl rfl rfl rfl ⟨by decide, by decide⟩ (c_X4_fieldNow cx.1 r7) (fun r8 => ?_)
    exact sn_ireturn rfl dX10_told_79
  refine sn_tabC (v := (4 : Int32)) (n := 4) (tgt := 80) (off := 79) dX10_told_1 (by decide) (by decide) rfl (by decide) ?_ (fun h4 => ?_)
  · refine sn_aload_n (y := m_X10_told) (pc := 80) dX10_told_80 rfl ?_
    refine sn_getA (y := m_X10_told) (pc := 81) ca_8 rfl fk_X10_26 (fun _ _ _ => rfl) dX10_told_81 (fun r9 => ?_)
    refine sn_invV (y := m_X10_told) (pc := 84) ca_4 (av := []) (o := r9) (st := []) dX10_told_84 lk_X10_319 im_X4_actsToUndo se_X4_actsToUndo rfl rfl rfl rfl ⟨by decide, by decide⟩ (c_X4_actsToUndo cx.1 r9) (fun r10 => ?_)
    exact sn_ireturn rfl dX10_told_87
  refine sn_tabC (v := (5 : Int32)) (n := 5) (tgt := 88) (off := 87) dX10_told_1 (by decide) (by decide) rfl (by decide) ?_ (fun h5 => ?_)
  · refine sn_aload_n (y := m_X10_told) (pc := 88) dX10_told_88 rfl ?_
    refine sn_getA (y := m_X10_told) (pc := 89) ca_8 rfl fk_X10_26 (fun _ _ _ => rfl) dX10_told_89 (fun r11 => ?_)
    refine sn_invV (y := m_X10_told) (pc := 92) ca_4 (av := []) (o := r11) (st := []) dX10_told_92 lk_X10_322 im_X4_actsToRedo se_X4_actsToRedo rfl rfl rfl rfl ⟨by decide, by decide⟩ (c_X4_actsToRedo cx.1 r11) (fun r12 => ?_)
    exact sn_ireturn rfl dX10_told_95
  refine sn_tabC (v := (6 : Int32)) (n := 6) (tgt := 96) (off := 95) dX10_told_1 (by decide) (by decide) rfl (by decide) ?_ (fun h6 => ?_)
  · refine sn_aload_n (y := m_X10_told) (pc := 96) dX10_told_96 rfl ?_
    refine sn_getA (y := m_X10_told) (pc := 97) ca_8 rfl fk_X10_26 (fun _ _ _ => rfl) dX10_told_97 (fun r13 => ?_)
    refine sn_invV (y := m_X10_told) (pc := 100) ca_4 (av := []) (o := r13) (st := []) dX10_told_100 lk_X10_294 im_X4_imagesHeld se_X4_imagesHeld rfl rfl rfl rfl ⟨by decide, by decide⟩ (c_X4_imagesHeld cx.1 r13) (fun r14 => ?_)
    exact sn_ireturn rfl dX10_told_103
  refine sn_tabC (v := (7 : Int32)) (n := 7) (tgt := 104) (off := 103) dX10_told_1 (by decide) (by decide) rfl (by decide) ?_ (fun h7 => ?_)
  · refine sn_aload_n (y := m_X10_told) (pc := 104) dX10_told_104 rfl ?_
    refine sn_getA (y := m_X10_told) (pc := 105) ca_8 rfl fk_X10_10 (fun _ _ _ => rfl) dX10_told_105 (fun r15 => ?_)
    refine sn_invV (y := m_X10_told) (pc := 108) ca_3 (av := []) (o := r15) (st := []) dX10_told_108 lk_X10_67 im_X3_tape se_X3_tape rfl rfl rfl rfl ⟨by decide, by decide⟩ (c_X3_tape cx.1 r15) (fun r16 => ?_)
    refine sn_invV (y := m_X10_told) (pc := 111) ca_7 (av := []) (o := r16) (st := []) dX10_told_111 lk_X10_81 im_X9_bytesHeld se_X9_bytesHeld rfl rfl rfl rfl ⟨by decide, by decide⟩ (c_X9_bytesHeld cx.1 r16) (fun r17 => ?_)
    exact sn_ireturn rfl dX10_told_114
  refine sn_tabD (tgt := 115) dX10_told_1 (by omega) (by decide) ?_
  refine sn_iconst (y := m_X10_told) (pc := 115) dX10_told_115 kc_iconst_m1 ?_
  exact sn_ireturn rfl dX10_told_116
set_option maxRecDepth 100000 in
theorem c_X10_told (g : Gl) (p0 : (Option Nat)) (p1 : Int32) : Cn g m_X10_told eI [vA p0, vI p1] (mCk 8 p0 (f_X10_told p0 p1)) := cn_of_sn (by decide +kernel) rfl (fun r => ⟨r, rfl⟩) rfl (fun _ _ => sn_ck (s_X10_told p0 p1))
/-! X10_trouble -/
def f_X10_trouble (p0 : (Option Nat)) : Mo Int32 :=
  mBd (mGetI 8 11 p0) (fun r1 => mRt r1)
set_option maxRecDepth 100000 in
theorem s_X10_trouble {cx : CX} (p0 : (Option Nat)) : Sn cx m_X10_trouble eI 0 [(0, vA p0)] [] (f_X10_trouble p0) := by
  refine sn_aload_n (y := m_X10_trouble) (pc := 0) dX10_trouble_0 rfl ?_
  refine sn_getI (y := m_X10_trouble) (pc := 1) ca_8 rfl fk_X10_64 (fun _ _ _ => rfl) dX10_trouble_1 (fun r1 => ?_)
  exact sn_ireturn rfl dX10_trouble_4
set_option maxRecDepth 100000 in
theorem c_X10_trouble (g : Gl) (p0 : (Option Nat)) : Cn g m_X10_trouble eI [vA p0] (mCk 8 p0 (f_X10_trouble p0)) := cn_of_sn (by decide +kernel) rfl (fun r => ⟨r, rfl⟩) rfl (fun _ _ => sn_ck (s_X10_trouble p0))
/-! X11_init -/
def f_X11_init (p0 : (Option Nat)) : Mo Unit :=
  mCk 9 p0 (mBd (mNewA 7 (4 : Int32)) (fun r1 => mBd (mPutA 9 4 p0 r1) (fun _ => mBd (mNewA 1 (4 : Int32)) (fun r2 => mBd (mPutA 9 5 p0 r2) (fun _ => mBd (mNewA 1 (4 : Int32)) (fun r3 => mBd (mPutA 9 6 p0 r3) (fun _ => mBd (mNewA 1 (4 : Int32)) (fun r4 => mBd (mPutA 9 7 p0 r4) (fun _ => mBd (mNewA 1 (12 : Int32)) (fun r5 => mBd (mPutA 9 8 p0 r5) (fun _ => mBd (mNewA 1 (12 : Int32)) (fun r6 => mBd (mPutA 9 9 p0 r6) (fun _ => mBd (mNewA 1 (8 : Int32)) (fun r7 => mBd (mPutA 9 10 p0 r7) (fun _ => mBd (mNewA 2 (96 : Int32)) (fun r8 => mBd (mPutA 9 11 p0 r8) (fun _ => mBd (mNewA 2 (16 : Int32)) (fun r9 => mBd (mPutA 9 12 p0 r9) (fun _ => mBd (mNewA 1 (16 : Int32)) (fun r10 => mBd (mPutA 9 13 p0 r10) (fun _ => mBd (mNewA 1 (16 : Int32)) (fun r11 => mBd (mPutA 9 14 p0 r11) (fun _ => mRt ())))))))))))))))))))))))
set_option maxRecDepth 100000 in
theorem s_X11_init {cx : CX} (p0 : (Option Nat)) : Sn cx m_X11_init eV 0 [(0, vA p0)] [] (f_X11_init p0) := by
  refine sn_aload_n (y := m_X11_init) (pc := 0) dX11_init_0 rfl ?_
  refine sn_objInit (y := m_X11_init) (pc := 1) oi_X11_3 oi_1 oi_2 dX11_init_1 rfl ⟨by decide, by decide⟩ ?_
  refine sn_aload_n (y := m_X11_init) (pc := 4) dX11_init_4 rfl ?_
  refine sn_iconst (y := m_X11_init) (pc := 5) dX11_init_5 kc_iconst_4 ?_
  refine sn_anewarray (y := m_X11_init) (pc := 6) (t := 7) rfl (Or.inr (Or.inr rfl)) cl_X11_9 dX11_init_6 (fun r1 => ?_)
  refine sn_putA (y := m_X11_init) (pc := 9) ca_9 rfl fk_X11_11 (Or.inr ⟨rfl, rfl, rfl, fkm_X11_11⟩) rfl dX11_init_9 ?_
  refine sn_aload_n (y := m_X11_init) (pc := 12) dX11_init_12 rfl ?_
  refine sn_iconst (y := m_X11_init) (pc := 13) dX11_init_13 kc_iconst_4 ?_
  refine sn_newarray (y := m_X11_init) (pc := 14) (t := 1) rfl (Or.inl rfl) ac_int dX11_init_14 (fun r2 => ?_)
  refine sn_putA (y := m_X11_init) (pc := 16) ca_9 rfl fk_X11_17 (Or.inr ⟨rfl, rfl, rfl, fkm_X11_17⟩) rfl dX11_init_16 ?_
  refine sn_aload_n (y := m_X11_init) (pc := 19) dX11_init_19 rfl ?_
  refine sn_iconst (y := m_X11_init) (pc := 20) dX11_init_20 kc_iconst_4 ?_
  refine sn_newarray (y := m_X11_init) (pc := 21) (t := 1) rfl (Or.inl rfl) ac_int dX11_init_21 (fun r3 => ?_)
  refine sn_putA (y := m_X11_init) (pc := 23) ca_9 rfl fk_X11_21 (Or.inr ⟨rfl, rfl, rfl, fkm_X11_21⟩) rfl dX11_init_23 ?_
  refine sn_aload_n (y := m_X11_init) (pc := 26) dX11_init_26 rfl ?_
  refine sn_iconst (y := m_X11_init) (pc := 27) dX11_init_27 kc_iconst_4 ?_
  refine sn_newarray (y := m_X11_init) (pc := 28) (t := 1) rfl (Or.inl rfl) ac_int dX11_init_28 (fun r4 => ?_)
  refine sn_putA (y := m_X11_init) (pc := 30) ca_9 rfl fk_X11_24 (Or.inr ⟨rfl, rfl, rfl, fkm_X11_24⟩) rfl dX11_init_30 ?_
  refine sn_aload_n (y := m_X11_init) (pc := 33) dX11_init_33 rfl ?_
  refine sn_bipush (y := m_X11_init) (pc := 34) dX11_init_34 kc_bipush_12 ?_
  refine sn_newarray (y := m_X11_init) (pc := 36) (t := 1) rfl (Or.inl rfl) ac_int dX11_init_36 (fun r5 => ?_)
  refine sn_putA (y := m_X11_init) (pc := 38) ca_9 rfl fk_X11_27 (Or.inr ⟨rfl, rfl, rfl, fkm_X11_27⟩) rfl dX11_init_38 ?_
  refine sn_aload_n (y := m_X11_init) (pc := 41) dX11_init_41 rfl ?_
  refine sn_bipush (y := m_X11_init) (pc := 42) dX11_init_42 kc_bipush_12 ?_
  refine sn_newarray (y := m_X11_init) (pc := 44) (t := 1) rfl (Or.inl rfl) ac_int dX11_init_44 (fun r6 => ?_)
  refine sn_putA (y := m_X11_init) (pc := 46) ca_9 rfl fk_X11_30 (Or.inr ⟨rfl, rfl, rfl, fkm_X11_30⟩) rfl dX11_init_46 ?_
  refine sn_aload_n (y := m_X11_init) (pc := 49) dX11_init_49 rfl ?_
  refine sn_bipush (y := m_X11_init) (pc := 50) dX11_init_50 kc_bipush_8 ?_
  refine sn_newarray (y := m_X11_init) (pc := 52) (t := 1) rfl (Or.inl rfl) ac_int dX11_init_52 (fun r7 => ?_)
  refine sn_putA (y := m_X11_init) (pc := 54) ca_9 rfl fk_X11_33 (Or.inr ⟨rfl, rfl, rfl, fkm_X11_33⟩) rfl dX11_init_54 ?_
  refine sn_aload_n (y := m_X11_init) (pc := 57) dX11_init_57 rfl ?_
  refine sn_bipush (y := m_X11_init) (pc := 58) dX11_init_58 kc_bipush_96 ?_
  refine sn_newarray (y := m_X11_init) (pc := 60) (t := 2) rfl (Or.inr (Or.inl rfl)) ac_long dX11_init_60 (fun r8 => ?_)
  refine sn_putA (y := m_X11_init) (pc := 62) ca_9 rfl fk_X11_36 (Or.inr ⟨rfl, rfl, rfl, fkm_X11_36⟩) rfl dX11_init_62 ?_
  refine sn_aload_n (y := m_X11_init) (pc := 65) dX11_init_65 rfl ?_
  refine sn_bipush (y := m_X11_init) (pc := 66) dX11_init_66 kc_bipush_16 ?_
  refine sn_newarray (y := m_X11_init) (pc := 68) (t := 2) rfl (Or.inr (Or.inl rfl)) ac_long dX11_init_68 (fun r9 => ?_)
  refine sn_putA (y := m_X11_init) (pc := 70) ca_9 rfl fk_X11_40 (Or.inr ⟨rfl, rfl, rfl, fkm_X11_40⟩) rfl dX11_init_70 ?_
  refine sn_aload_n (y := m_X11_init) (pc := 73) dX11_init_73 rfl ?_
  refine sn_bipush (y := m_X11_init) (pc := 74) dX11_init_74 kc_bipush_16 ?_
  refine sn_newarray (y := m_X11_init) (pc := 76) (t := 1) rfl (Or.inl rfl) ac_int dX11_init_76 (fun r10 => ?_)
  refine sn_putA (y := m_X11_init) (pc := 78) ca_9 rfl fk_X11_43 (Or.inr ⟨rfl, rfl, rfl, fkm_X11_43⟩) rfl dX11_init_78 ?_
  refine sn_aload_n (y := m_X11_init) (pc := 81) dX11_init_81 rfl ?_
  refine sn_bipush (y := m_X11_init) (pc := 82) dX11_init_82 kc_bipush_16 ?_
  refine sn_newarray (y := m_X11_init) (pc := 84) (t := 1) rfl (Or.inl rfl) ac_int dX11_init_84 (fun r11 => ?_)
  refine sn_putA (y := m_X11_init) (pc := 86) ca_9 rfl fk_X11_46 (Or.inr ⟨rfl, rfl, rfl, fkm_X11_46⟩) rfl dX11_init_86 ?_
  exact sn_return rfl dX11_init_89
set_option maxRecDepth 100000 in
theorem c_X11_init (g : Gl) (p0 : (Option Nat)) : Cn g m_X11_init eV [vA p0] (mCk 9 p0 (f_X11_init p0)) := cn_of_sn (by decide +kernel) rfl (fun _ => rfl) rfl (fun _ _ => sn_ck (s_X11_init p0))
/-! X11_find -/
def f_X11_find_b2 (x0 : (Option Nat)) (x1 : Int64) (k2 : Int32 → Mo Int32) (x3 : Int32) : Mo Int32 :=
  mBd (mGetI 9 3 x0) (fun r1 => (if x3 ≥ r1 then mRt (-1 : Int32) else mBd (mGetA 9 12 x0) (fun r2 => mBd (mLdJ r2 x3) (fun r3 => (if ¬ r3 = x1 then k2 (x3 + 1) else mRt x3)))))
def f_X11_find_l2 (x0 : (Option Nat)) (x1 : Int64) : Int32 → Mo Int32 := lq1 (f_X11_find_b2 x0 x1) fuel
set_option maxRecDepth 100000 in
theorem s_X11_find_b2 {cx : CX} (x0 : (Option Nat)) (x1 : Int64) {k2 : Int32 → Mo Int32} (hk2 : ∀ (z3 : Int32), Sn cx m_X11_find eI 2 [(3, vI z3), (0, vA x0), (1, vJ x1)] [] (k2 z3)) (x3 : Int32) : Sn cx m_X11_find eI 2 [(3, vI x3), (0, vA x0), (1, vJ x1)] [] (f_X11_find_b2 x0 x1 k2 x3) := by
  refine sn_iload_n (y := m_X11_find) (pc := 2) dX11_find_2 rfl ?_
  refine sn_aload_n (y := m_X11_find) (pc := 3) dX11_find_3 rfl ?_
  refine sn_getI (y := m_X11_find) (pc := 4) ca_9 rfl fk_X11_49 (fun _ _ _ => rfl) dX11_find_4 (fun r1 => ?_)
  refine sn_icmp_ge (y := m_X11_find) (pc := 7) (tgt := 29) dX11_find_7 (by decide) (fun _ => ?_) (fun _ => ?_)
  · refine sn_iconst (y := m_X11_find) (pc := 29) dX11_find_29 kc_iconst_m1 ?_
    exact sn_ireturn rfl dX11_find_30
  refine sn_aload_n (y := m_X11_find) (pc := 10) dX11_find_10 rfl ?_
  refine sn_getA (y := m_X11_find) (pc := 11) ca_9 rfl fk_X11_40 (fun _ _ _ => rfl) dX11_find_11 (fun r2 => ?_)
  refine sn_iload_n (y := m_X11_find) (pc := 14) dX11_find_14 rfl ?_
  refine sn_laload (y := m_X11_find) (pc := 15) dX11_find_15 (fun r3 => ?_)
  refine sn_lload_n (y := m_X11_find) (pc := 16) dX11_find_16 rfl ?_
  refine sn_lc_ne (y := m_X11_find) (pc := 17) (tgt := 23) dX11_find_17 dX11_find_18 (by decide) (fun _ => ?_) (fun _ => ?_)
  · refine sn_iinc (y := m_X11_find) (pc := 23) (v := x3 + 1) dX11_find_23 rfl (by rfl) rfl ?_
    refine sn_goto (y := m_X11_find) (pc := 26) (tgt := 2) dX11_find_26 (by decide) ?_
    exact sn_sub rfl (hk2 (x3 + 1))
  refine sn_iload_n (y := m_X11_find) (pc := 21) dX11_find_21 rfl ?_
  exact sn_ireturn rfl dX11_find_22
set_option maxRecDepth 100000 in
theorem s_X11_find_l2 {cx : CX} (x0 : (Option Nat)) (x1 : Int64) (x3 : Int32) : Sn cx m_X11_find eI 2 [(3, vI x3), (0, vA x0), (1, vJ x1)] [] (f_X11_find_l2 x0 x1 x3) :=
  sn_lq1 (L := fun x3 => [(3, vI x3), (0, vA x0), (1, vJ x1)]) (fun k hk x3 => s_X11_find_b2 x0 x1 hk x3) fuel x3
def f_X11_find (p0 : (Option Nat)) (p1 : Int64) : Mo Int32 :=
  f_X11_find_l2 p0 p1 (0 : Int32)
set_option maxRecDepth 100000 in
theorem s_X11_find {cx : CX} (p0 : (Option Nat)) (p1 : Int64) : Sn cx m_X11_find eI 0 [(0, vA p0), (1, vJ p1)] [] (f_X11_find p0 p1) := by
  refine sn_iconst (y := m_X11_find) (pc := 0) dX11_find_0 kc_iconst_0 ?_
  refine sn_istore_n (y := m_X11_find) (pc := 1) dX11_find_1 rfl ?_
  exact sn_sub rfl (s_X11_find_l2 p0 p1 (0 : Int32))
set_option maxRecDepth 100000 in
theorem c_X11_find (g : Gl) (p0 : (Option Nat)) (p1 : Int64) : Cn g m_X11_find eI [vA p0, vJ p1] (mCk 9 p0 (f_X11_find p0 p1)) := cn_of_sn (by decide +kernel) rfl (fun r => ⟨r, rfl⟩) rfl (fun _ _ => sn_ck (s_X11_find p0 p1))
/-! X12_isRoot -/
def f_X12_isRoot_b9 (x0 : (Option Nat)) (x1 : Int32) (k9 : Int32 → Int32 → Mo Int32) (x2 : Int32) (x3 : Int32) : Mo Int32 :=
  mBd (mGetI 10 0 x0) (fun r3 => (if x3 ≥ (r3 - (1 : Int32)) then mRt (1 : Int32) else (if ¬ x2 = (1 : Int32) then mBd (mGetI 10 0 x0) (fun r4 => mRq (¬ r4 = 0) (mNm (irem (x2 * x1) r4) (fun n5 => k9 n5 (x3 + 1)))) else mRt (0 : Int32))))
def f_X12_isRoot_l9 (x0 : (Option Nat)) (x1 : Int32) : Int32 → Int32 → Mo Int32 := lq2 (f_X12_isRoot_b9 x0 x1) fuel
set_option maxRecDepth 100000 in
theorem s_X12_isRoot_b9 {cx : CX} (x0 : (Option Nat)) (x1 : Int32) {k9 : Int32 → Int32 → Mo Int32} (hk9 : ∀ (z2 : Int32) (z3 : Int32), Sn cx m_X12_isRoot eI 9 [(2, vI z2), (3, vI z3), (0, vA x0), (1, vI x1)] [] (k9 z2 z3)) (x2 : Int32) (x3 : Int32) : Sn cx m_X12_isRoot eI 9 [(2, vI x2), (3, vI x3), (0, vA x0), (1, vI x1)] [] (f_X12_isRoot_b9 x0 x1 k9 x2 x3) := by
  refine sn_iload_n (y := m_X12_isRoot) (pc := 9) dX12_isRoot_9 rfl ?_
  refine sn_aload_n (y := m_X12_isRoot) (pc := 10) dX12_isRoot_10 rfl ?_
  refine sn_getI (y := m_X12_isRoot) (pc := 11) ca_10 rfl fk_X12_19 (fun _ _ _ => rfl) dX12_isRoot_11 (fun r3 => ?_)
  refine sn_iconst (y := m_X12_isRoot) (pc := 14) dX12_isRoot_14 kc_iconst_1 ?_
  refine sn_isub (y := m_X12_isRoot) (pc := 15) dX12_isRoot_15 ?_
  refine sn_icmp_ge (y := m_X12_isRoot) (pc := 16) (tgt := 41) dX12_isRoot_16 (by decide) (fun _ => ?_) (fun _ => ?_)
  · refine sn_iconst (y := m_X12_isRoot) (pc := 41) dX12_isRoot_41 kc_iconst_1 ?_
    exact sn_zreturnC (by decide) rfl dX12_isRoot_42
  refine sn_iload_n (y := m_X12_isRoot) (pc := 19) dX12_isRoot_19 rfl ?_
  refine sn_iconst (y := m_X12_isRoot) (pc := 20) dX12_isRoot_20 kc_iconst_1 ?_
  refine sn_icmp_ne (y := m_X12_isRoot) (pc := 21) (tgt := 26) dX12_isRoot_21 (by decide) (fun _ => ?_) (fun _ => ?_)
  · refine sn_iload_n (y := m_X12_isRoot) (pc := 26) dX12_isRoot_26 rfl ?_
    refine sn_iload_n (y := m_X12_isRoot) (pc := 27) dX12_isRoot_27 rfl ?_
    refine sn_imul (y := m_X12_isRoot) (pc := 28) dX12_isRoot_28 ?_
    refine sn_aload_n (y := m_X12_isRoot) (pc := 29) dX12_isRoot_29 rfl ?_
    refine sn_getI (y := m_X12_isRoot) (pc := 30) ca_10 rfl fk_X12_19 (fun _ _ _ => rfl) dX12_isRoot_30 (fun r4 => ?_)
    refine sn_irem (y := m_X12_isRoot) (pc := 33) dX12_isRoot_33 ?_
    refine sn_istore_nM (y := m_X12_isRoot) (pc := 34) dX12_isRoot_34 rfl (fun n5 => ?_)
    refine sn_iinc (y := m_X12_isRoot) (pc := 35) (v := x3 + 1) dX12_isRoot_35 rfl (by rfl) rfl ?_
    refine sn_goto (y := m_X12_isRoot) (pc := 38) (tgt := 9) dX12_isRoot_38 (by decide) ?_
    exact sn_sub rfl (hk9 n5 (x3 + 1))
  refine sn_iconst (y := m_X12_isRoot) (pc := 24) dX12_isRoot_24 kc_iconst_0 ?_
  exact sn_zreturnC (by decide) rfl dX12_isRoot_25
set_option maxRecDepth 100000 in
theorem s_X12_isRoot_l9 {cx : CX} (x0 : (Option Nat)) (x1 : Int32) (x2 : Int32) (x3 : Int32) : Sn cx m_X12_isRoot eI 9 [(2, vI x2), (3, vI x3), (0, vA x0), (1, vI x1)] [] (f_X12_isRoot_l9 x0 x1 x2 x3) :=
  sn_lq2 (L := fun x2 x3 => [(2, vI x2), (3, vI x3), (0, vA x0), (1, vI x1)]) (fun k hk x2 x3 => s_X12_isRoot_b9 x0 x1 hk x2 x3) fuel x2 x3
def f_X12_isRoot (p0 : (Option Nat)) (p1 : Int32) : Mo Int32 :=
  mBd (mGetI 10 0 p0) (fun r1 => mRq (¬ r1 = 0) (mNm (irem p1 r1) (fun n2 => f_X12_isRoot_l9 p0 p1 n2 (1 : Int32))))
set_option maxRecDepth 100000 in
theorem s_X12_isRoot {cx : CX} (p0 : (Option Nat)) (p1 : Int32) : Sn cx m_X12_isRoot eI 0 [(0, vA p0), (1, vI p1)] [] (f_X12_isRoot p0 p1) := by
  refine sn_iload_n (y := m_X12_isRoot) (pc := 0) dX12_isRoot_0 rfl ?_
  refine sn_aload_n (y := m_X12_isRoot) (pc := 1) dX12_isRoot_1 rfl ?_
  refine sn_getI (y := m_X12_isRoot) (pc := 2) ca_10 rfl fk_X12_19 (fun _ _ _ => rfl) dX12_isRoot_2 (fun r1 => ?_)
  refine sn_irem (y := m_X12_isRoot) (pc := 5) dX12_isRoot_5 ?_
  refine sn_istore_nM (y := m_X12_isRoot) (pc := 6) dX12_isRoot_6 rfl (fun n2 => ?_)
  refine sn_iconst (y := m_X12_isRoot) (pc := 7) dX12_isRoot_7 kc_iconst_1 ?_
  refine sn_istore_n (y := m_X12_isRoot) (pc := 8) dX12_isRoot_8 rfl ?_
  exact sn_sub rfl (s_X12_isRoot_l9 p0 p1 n2 (1 : Int32))
set_option maxRecDepth 100000 in
theorem c_X12_isRoot (g : Gl) (p0 : (Option Nat)) (p1 : Int32) : Cn g m_X12_isRoot eI [vA p0, vI p1] (mCk 10 p0 (f_X12_isRoot p0 p1)) := cn_of_sn (by decide +kernel) rfl (fun r => ⟨r, rfl⟩) rfl (fun _ _ => sn_ck (s_X12_isRoot p0 p1))
/-! X13_divisor -/
def f_X13_divisor_b4 (k4 : Int32 → Int32 → Mo Int32) (x2 : Int32) (x3 : Int32) : Mo Int32 :=
  (if x3 = 0 then mRt x2 else mRq (¬ x3 = 0) (mNm (irem x2 x3) (fun n1 => k4 x3 n1)))
def f_X13_divisor_l4 : Int32 → Int32 → Mo Int32 := lq2 (f_X13_divisor_b4) fuel
set_option maxRecDepth 100000 in
theorem s_X13_divisor_b4 {cx : CX} {k4 : Int32 → Int32 → Mo Int32} (hk4 : ∀ (z2 : Int32) (z3 : Int32), Sn cx m_X13_divisor eI 4 [(2, vI z2), (3, vI z3)] [] (k4 z2 z3)) (x2 : Int32) (x3 : Int32) : Sn cx m_X13_divisor eI 4 [(2, vI x2), (3, vI x3)] [] (f_X13_divisor_b4 k4 x2 x3) := by
  refine sn_iload_n (y := m_X13_divisor) (pc := 4) dX13_divisor_4 rfl ?_
  refine sn_if_eq (y := m_X13_divisor) (pc := 5) (tgt := 21) dX13_divisor_5 (by decide) (fun _ => ?_) (fun _ => ?_)
  · refine sn_iload_n (y := m_X13_divisor) (pc := 21) dX13_divisor_21 rfl ?_
    exact sn_ireturn rfl dX13_divisor_22
  refine sn_iload_n (y := m_X13_divisor) (pc := 8) dX13_divisor_8 rfl ?_
  refine sn_iload_n (y := m_X13_divisor) (pc := 9) dX13_divisor_9 rfl ?_
  refine sn_irem (y := m_X13_divisor) (pc := 10) dX13_divisor_10 ?_
  refine sn_istoreM (y := m_X13_divisor) (pc := 11) dX13_divisor_11 rfl (fun n1 => ?_)
  refine sn_iload_n (y := m_X13_divisor) (pc := 13) dX13_divisor_13 rfl ?_
  refine sn_istore_n (y := m_X13_divisor) (pc := 14) dX13_divisor_14 rfl ?_
  refine sn_iload (y := m_X13_divisor) (pc := 15) dX13_divisor_15 rfl ?_
  refine sn_istore_n (y := m_X13_divisor) (pc := 17) dX13_divisor_17 rfl ?_
  refine sn_goto (y := m_X13_divisor) (pc := 18) (tgt := 4) dX13_divisor_18 (by decide) ?_
  exact sn_sub rfl (hk4 x3 n1)
set_option maxRecDepth 100000 in
theorem s_X13_divisor_l4 {cx : CX} (x2 : Int32) (x3 : Int32) : Sn cx m_X13_divisor eI 4 [(2, vI x2), (3, vI x3)] [] (f_X13_divisor_l4 x2 x3) :=
  sn_lq2 (L := fun x2 x3 => [(2, vI x2), (3, vI x3)]) (fun k hk x2 x3 => s_X13_divisor_b4 hk x2 x3) fuel x2 x3
def f_X13_divisor (p0 : Int32) (p1 : Int32) : Mo Int32 :=
  f_X13_divisor_l4 p0 p1
set_option maxRecDepth 100000 in
theorem s_X13_divisor {cx : CX} (p0 : Int32) (p1 : Int32) : Sn cx m_X13_divisor eI 0 [(0, vI p0), (1, vI p1)] [] (f_X13_divisor p0 p1) := by
  refine sn_iload_n (y := m_X13_divisor) (pc := 0) dX13_divisor_0 rfl ?_
  refine sn_istore_n (y := m_X13_divisor) (pc := 1) dX13_divisor_1 rfl ?_
  refine sn_iload_n (y := m_X13_divisor) (pc := 2) dX13_divisor_2 rfl ?_
  refine sn_istore_n (y := m_X13_divisor) (pc := 3) dX13_divisor_3 rfl ?_
  exact sn_sub rfl (s_X13_divisor_l4 p0 p1)
set_option maxRecDepth 100000 in
theorem c_X13_divisor (g : Gl) (p0 : Int32) (p1 : Int32) : Cn g m_X13_divisor eI [vI p0, vI p1] (f_X13_divisor p0 p1) := cn_of_sn (by decide +kernel) rfl (fun r => ⟨r, rfl⟩) rfl (fun _ _ => s_X13_divisor p0 p1)
/-! X12_sign -/
def f_X12_sign_b6 (x0 : Int32) (k6 : Int32 → Int32 → Int32 → Mo Int32) (x1 : Int32) (x2 : Int32) (x3 : Int32) : Mo Int32 :=
  (if x3 > x0 then mRt x2 else mRq (¬ x3 = 0) ((if (irem x1 x3) = 0 then mRq (¬ x3 = 0) (mNm (x1 / x3) (fun n1 => mRq (¬ x3 = 0) ((if ¬ (irem n1 x3) = 0 then mNm (-x2) (fun n2 => k6 n1 n2 (x3 + 1)) else mRt (0 : Int32))))) else k6 x1 x2 (x3 + 1))))
def f_X12_sign_l6 (x0 : Int32) : Int32 → Int32 → Int32 → Mo Int32 := lq3 (f_X12_sign_b6 x0) fuel
set_option maxRecDepth 100000 in
theorem s_X12_sign_b6 {cx : CX} (x0 : Int32) {k6 : Int32 → Int32 → Int32 → Mo Int32} (hk6 : ∀ (z1 : Int32) (z2 : Int32) (z3 : Int32), Sn cx m_X12_sign eI 6 [(1, vI z1), (2, vI z2), (3, vI z3), (0, vI x0)] [] (k6 z1 z2 z3)) (x1 : Int32) (x2 : Int32) (x3 : Int32) : Sn cx m_X12_sign eI 6 [(1, vI x1), (2, vI x2), (3, vI x3), (0, vI x0)] [] (f_X12_sign_b6 x0 k6 x1 x2 x3) := by
  refine sn_iload_n (y := m_X12_sign) (pc := 6) dX12_sign_6 rfl ?_
  refine sn_iload_n (y := m_X12_sign) (pc := 7) dX12_sign_7 rfl ?_
  refine sn_icmp_gt (y := m_X12_sign) (pc := 8) (tgt := 41) dX12_sign_8 (by decide) (fun _ => ?_) (fun _ => ?_)
  · refine sn_iload_n (y := m_X12_sign) (pc := 41) dX12_sign_41 rfl ?_
    exact sn_ireturn rfl dX12_sign_42
  refine sn_iload_n (y := m_X12_sign) (pc := 11) dX12_sign_11 rfl ?_
  refine sn_iload_n (y := m_X12_sign) (pc := 12) dX12_sign_12 rfl ?_
  refine sn_irem (y := m_X12_sign) (pc := 13) dX12_sign_13 ?_
  refine sn_if_eq (y := m_X12_sign) (pc := 14) (tgt := 20) dX12_sign_14 (by decide) (fun _ => ?_) (fun _ => ?_)
  · refine sn_iload_n (y := m_X12_sign) (pc := 20) dX12_sign_20 rfl ?_
    refine sn_iload_n (y := m_X12_sign) (pc := 21) dX12_sign_21 rfl ?_
    refine sn_idiv (y := m_X12_sign) (pc := 22) dX12_sign_22 ?_
    refine sn_istore_nM (y := m_X12_sign) (pc := 23) dX12_sign_23 rfl (fun n1 => ?_)
    refine sn_iload_n (y := m_X12_sign) (pc := 24) dX12_sign_24 rfl ?_
    refine sn_iload_n (y := m_X12_sign) (pc := 25) dX12_sign_25 rfl ?_
    refine sn_irem (y := m_X12_sign) (pc := 26) dX12_sign_26 ?_
    refine sn_if_ne (y := m_X12_sign) (pc := 27) (tgt := 32) dX12_sign_27 (by decide) (fun _ => ?_) (fun _ => ?_)
    · refine sn_iload_n (y := m_X12_sign) (pc := 32) dX12_sign_32 rfl ?_
      refine sn_ineg (y := m_X12_sign) (pc := 33) dX12_sign_33 ?_
      refine sn_istore_nM (y := m_X12_sign) (pc := 34) dX12_sign_34 rfl (fun n2 => ?_)
      refine sn_iinc (y := m_X12_sign) (pc := 35) (v := x3 + 1) dX12_sign_35 rfl (by rfl) rfl ?_
      refine sn_goto (y := m_X12_sign) (pc := 38) (tgt := 6) dX12_sign_38 (by decide) ?_
      exact sn_sub rfl (hk6 n1 n2 (x3 + 1))
    refine sn_iconst (y := m_X12_sign) (pc := 30) dX12_sign_30 kc_iconst_0 ?_
    exact sn_ireturn rfl dX12_sign_31
  refine sn_goto (y := m_X12_sign) (pc := 17) (tgt := 35) dX12_sign_17 (by decide) ?_
  refine sn_iinc (y := m_X12_sign) (pc := 35) (v := x3 + 1) dX12_sign_35 rfl (by rfl) rfl ?_
  refine sn_goto (y := m_X12_sign) (pc := 38) (tgt := 6) dX12_sign_38 (by decide) ?_
  exact sn_sub rfl (hk6 x1 x2 (x3 + 1))
set_option maxRecDepth 100000 in
theorem s_X12_sign_l6 {cx : CX} (x0 : Int32) (x1 : Int32) (x2 : Int32) (x3 : Int32) : Sn cx m_X12_sign eI 6 [(1, vI x1), (2, vI x2), (3, vI x3), (0, vI x0)] [] (f_X12_sign_l6 x0 x1 x2 x3) :=
  sn_lq3 (L := fun x1 x2 x3 => [(1, vI x1), (2, vI x2), (3, vI x3), (0, vI x0)]) (fun k hk x1 x2 x3 => s_X12_sign_b6 x0 hk x1 x2 x3) fuel x1 x2 x3
def f_X12_sign (p0 : Int32) : Mo Int32 :=
  f_X12_sign_l6 p0 p0 (1 : Int32) (2 : Int32)
set_option maxRecDepth 100000 in
theorem s_X12_sign {cx : CX} (p0 : Int32) : Sn cx m_X12_sign eI 0 [(0, vI p0)] [] (f_X12_sign p0) := by
  refine sn_iload_n (y := m_X12_sign) (pc := 0) dX12_sign_0 rfl ?_
  refine sn_istore_n (y := m_X12_sign) (pc := 1) dX12_sign_1 rfl ?_
  refine sn_iconst (y := m_X12_sign) (pc := 2) dX12_sign_2 kc_iconst_1 ?_
  refine sn_istore_n (y := m_X12_sign) (pc := 3) dX12_sign_3 rfl ?_
  refine sn_iconst (y := m_X12_sign) (pc := 4) dX12_sign_4 kc_iconst_2 ?_
  refine sn_istore_n (y := m_X12_sign) (pc := 5) dX12_sign_5 rfl ?_
  exact sn_sub rfl (s_X12_sign_l6 p0 p0 (1 : Int32) (2 : Int32))
set_option maxRecDepth 100000 in
theorem c_X12_sign (g : Gl) (p0 : Int32) : Cn g m_X12_sign eI [vI p0] (f_X12_sign p0) := cn_of_sn (by decide +kernel) rfl (fun r => ⟨r, rfl⟩) rfl (fun _ _ => s_X12_sign p0)
/-! X12_lays -/
def f_X12_lays_j130 (k9 : Int32 → Mo Unit) (k16 : Int32 → Mo Unit) (k102 : Int32 → Mo Unit) (x0 : (Option Nat)) (x1 : Int32) (x2 : Int32) (x3 : Int32) (s0 : Int64) (s1 : Int32) (s2 : (Option Nat)) : Mo Unit :=
  mBd (mGetA 10 5 x0) (fun r7 => mBd (mLdJ r7 x3) (fun r8 => mBd (mStJ s2 s1 (s0 - r8)) (fun _ => k102 (x3 + 1))))
set_option maxRecDepth 100000 in
theorem s_X12_lays_j130 {cx : CX} {k9 : Int32 → Mo Unit} {k16 : Int32 → Mo Unit} {k102 : Int32 → Mo Unit} (x0 : (Option Nat)) (x1 : Int32) (x2 : Int32) (x3 : Int32) (s0 : Int64) (s1 : Int32) (s2 : (Option Nat)) (hk9 : ∀ (z1 : Int32), Sn cx m_X12_lays eV 9 [(1, vI z1), (0, vA x0)] [] (k9 z1)) (hk16 : ∀ (z2 : Int32), Sn cx m_X12_lays eV 16 [(2, vI z2), (0, vA x0), (1, vI x1)] [] (k16 z2)) (hk102 : ∀ (z3 : Int32), Sn cx m_X12_lays eV 102 [(3, vI z3), (0, vA x0), (1, vI x1), (2, vI x2)] [] (k102 z3)) : Sn cx m_X12_lays eV 130 [(0, vA x0), (1, vI x1), (2, vI x2), (3, vI x3)] [vJ s0, vI s1, vA s2] (f_X12_lays_j130 k9 k16 k102 x0 x1 x2 x3 s0 s1 s2) := by
  refine sn_aload_n (y := m_X12_lays) (pc := 130) dX12_lays_130 rfl ?_
  refine sn_getA (y := m_X12_lays) (pc := 131) ca_10 rfl fk_X12_15 (fun _ _ _ => rfl) dX12_lays_131 (fun r7 => ?_)
  refine sn_iload_n (y := m_X12_lays) (pc := 134) dX12_lays_134 rfl ?_
  refine sn_laload (y := m_X12_lays) (pc := 135) dX12_lays_135 (fun r8 => ?_)
  refine sn_lsub (y := m_X12_lays) (pc := 136) dX12_lays_136 ?_
  refine sn_lastore (y := m_X12_lays) (pc := 137) dX12_lays_137 ?_
  refine sn_iinc (y := m_X12_lays) (pc := 138) (v := x3 + 1) dX12_lays_138 rfl (by rfl) rfl ?_
  refine sn_goto (y := m_X12_lays) (pc := 141) (tgt := 102) dX12_lays_141 (by decide) ?_
  exact sn_sub rfl (hk102 (x3 + 1))
def f_X12_lays_b102 (k9 : Int32 → Mo Unit) (k16 : Int32 → Mo Unit) (x0 : (Option Nat)) (x1 : Int32) (x2 : Int32) (k102 : Int32 → Mo Unit) (x3 : Int32) : Mo Unit :=
  (if x3 > (12 : Int32) then k16 (x2 + 1) else mBd (mGetA 10 5 x0) (fun r6 => (if x3 < x2 then f_X12_lays_j130 k9 k16 k102 x0 x1 x2 x3 (0 : Int64) x3 r6 else mBd (mGetA 10 5 x0) (fun r9 => mBd (mLdJ r9 (x3 - x2)) (fun r10 => f_X12_lays_j130 k9 k16 k102 x0 x1 x2 x3 r10 x3 r6)))))
def f_X12_lays_l102 (k9 : Int32 → Mo Unit) (k16 : Int32 → Mo Unit) (x0 : (Option Nat)) (x1 : Int32) (x2 : Int32) : Int32 → Mo Unit := lq1 (f_X12_lays_b102 k9 k16 x0 x1 x2) fuel
set_option maxRecDepth 100000 in
theorem s_X12_lays_b102 {cx : CX} {k9 : Int32 → Mo Unit} {k16 : Int32 → Mo Unit} (x0 : (Option Nat)) (x1 : Int32) (x2 : Int32) (hk9 : ∀ (z1 : Int32), Sn cx m_X12_lays eV 9 [(1, vI z1), (0, vA x0)] [] (k9 z1)) (hk16 : ∀ (z2 : Int32), Sn cx m_X12_lays eV 16 [(2, vI z2), (0, vA x0), (1, vI x1)] [] (k16 z2)) {k102 : Int32 → Mo Unit} (hk102 : ∀ (z3 : Int32), Sn cx m_X12_lays eV 102 [(3, vI z3), (0, vA x0), (1, vI x1), (2, vI x2)] [] (k102 z3)) (x3 : Int32) : Sn cx m_X12_lays eV 102 [(3, vI x3), (0, vA x0), (1, vI x1), (2, vI x2)] [] (f_X12_lays_b102 k9 k16 x0 x1 x2 k102 x3) := by
  refine sn_iload_n (y := m_X12_lays) (pc := 102) dX12_lays_102 rfl ?_
  refine sn_bipush (y := m_X12_lays) (pc := 103) dX12_lays_103 kc_bipush_12 ?_
  refine sn_icmp_gt (y := m_X12_lays) (pc := 105) (tgt := 144) dX12_lays_105 (by decide) (fun _ => ?_) (fun _ => ?_)
  · refine sn_iinc (y := m_X12_lays) (pc := 144) (v := x2 + 1) dX12_lays_144 rfl (by rfl) rfl ?_
    refine sn_goto (y := m_X12_lays) (pc := 147) (tgt := 16) dX12_lays_147 (by decide) ?_
    exact sn_sub rfl (hk16 (x2 + 1))
  refine sn_aload_n (y := m_X12_lays) (pc := 108) dX12_lays_108 rfl ?_
  refine sn_getA (y := m_X12_lays) (pc := 109) ca_10 rfl fk_X12_15 (fun _ _ _ => rfl) dX12_lays_109 (fun r6 => ?_)
  refine sn_iload_n (y := m_X12_lays) (pc := 112) dX12_lays_112 rfl ?_
  refine sn_iload_n (y := m_X12_lays) (pc := 113) dX12_lays_113 rfl ?_
  refine sn_iload_n (y := m_X12_lays) (pc := 114) dX12_lays_114 rfl ?_
  refine sn_icmp_lt (y := m_X12_lays) (pc := 115) (tgt := 129) dX12_lays_115 (by decide) (fun _ => ?_) (fun _ => ?_)
  · refine sn_lconst (y := m_X12_lays) (pc := 129) dX12_lays_129 kc_lconst_0 ?_
    exact sn_sub rfl (s_X12_lays_j130 x0 x1 x2 x3 (0 : Int64) x3 r6 hk9 hk16 hk102)
  refine sn_aload_n (y := m_X12_lays) (pc := 118) dX12_lays_118 rfl ?_
  refine sn_getA (y := m_X12_lays) (pc := 119) ca_10 rfl fk_X12_15 (fun _ _ _ => rfl) dX12_lays_119 (fun r9 => ?_)
  refine sn_iload_n (y := m_X12_lays) (pc := 122) dX12_lays_122 rfl ?_
  refine sn_iload_n (y := m_X12_lays) (pc := 123) dX12_lays_123 rfl ?_
  refine sn_isub (y := m_X12_lays) (pc := 124) dX12_lays_124 ?_
  refine sn_laload (y := m_X12_lays) (pc := 125) dX12_lays_125 (fun r10 => ?_)
  refine sn_goto (y := m_X12_lays) (pc := 126) (tgt := 130) dX12_lays_126 (by decide) ?_
  exact sn_sub rfl (s_X12_lays_j130 x0 x1 x2 x3 r10 x3 r6 hk9 hk16 hk102)
set_option maxRecDepth 100000 in
theorem s_X12_lays_l102 {cx : CX} {k9 : Int32 → Mo Unit} {k16 : Int32 → Mo Unit} (x0 : (Option Nat)) (x1 : Int32) (x2 : Int32) (hk9 : ∀ (z1 : Int32), Sn cx m_X12_lays eV 9 [(1, vI z1), (0, vA x0)] [] (k9 z1)) (hk16 : ∀ (z2 : Int32), Sn cx m_X12_lays eV 16 [(2, vI z2), (0, vA x0), (1, vI x1)] [] (k16 z2)) (x3 : Int32) : Sn cx m_X12_lays eV 102 [(3, vI x3), (0, vA x0), (1, vI x1), (2, vI x2)] [] (f_X12_lays_l102 k9 k16 x0 x1 x2 x3) :=
  sn_lq1 (L := fun x3 => [(3, vI x3), (0, vA x0), (1, vI x1), (2, vI x2)]) (fun k hk x3 => s_X12_lays_b102 x0 x1 x2 hk9 hk16 hk x3) fuel x3
def f_X12_lays_j83 (k9 : Int32 → Mo Unit) (k16 : Int32 → Mo Unit) (k57 : Int32 → Mo Unit) (x0 : (Option Nat)) (x1 : Int32) (x2 : Int32) (x3 : Int32) (s0 : Int64) (s1 : Int32) (s2 : (Option Nat)) : Mo Unit :=
  mBd (mGetA 10 5 x0) (fun r12 => mBd (mLdJ r12 x3) (fun r13 => mBd (mStJ s2 s1 (s0 - r13)) (fun _ => k57 (x3 + (-1)))))
set_option maxRecDepth 100000 in
theorem s_X12_lays_j83 {cx : CX} {k9 : Int32 → Mo Unit} {k16 : Int32 → Mo Unit} {k57 : Int32 → Mo Unit} (x0 : (Option Nat)) (x1 : Int32) (x2 : Int32) (x3 : Int32) (s0 : Int64) (s1 : Int32) (s2 : (Option Nat)) (hk9 : ∀ (z1 : Int32), Sn cx m_X12_lays eV 9 [(1, vI z1), (0, vA x0)] [] (k9 z1)) (hk16 : ∀ (z2 : Int32), Sn cx m_X12_lays eV 16 [(2, vI z2), (0, vA x0), (1, vI x1)] [] (k16 z2)) (hk57 : ∀ (z3 : Int32), Sn cx m_X12_lays eV 57 [(3, vI z3), (0, vA x0), (1, vI x1), (2, vI x2)] [] (k57 z3)) : Sn cx m_X12_lays eV 83 [(0, vA x0), (1, vI x1), (2, vI x2), (3, vI x3)] [vJ s0, vI s1, vA s2] (f_X12_lays_j83 k9 k16 k57 x0 x1 x2 x3 s0 s1 s2) := by
  refine sn_aload_n (y := m_X12_lays) (pc := 83) dX12_lays_83 rfl ?_
  refine sn_getA (y := m_X12_lays) (pc := 84) ca_10 rfl fk_X12_15 (fun _ _ _ => rfl) dX12_lays_84 (fun r12 => ?_)
  refine sn_iload_n (y := m_X12_lays) (pc := 87) dX12_lays_87 rfl ?_
  refine sn_laload (y := m_X12_lays) (pc := 88) dX12_lays_88 (fun r13 => ?_)
  refine sn_lsub (y := m_X12_lays) (pc := 89) dX12_lays_89 ?_
  refine sn_lastore (y := m_X12_lays) (pc := 90) dX12_lays_90 ?_
  refine sn_iinc (y := m_X12_lays) (pc := 91) (v := x3 + (-1)) dX12_lays_91 rfl (by rfl) rfl ?_
  refine sn_goto (y := m_X12_lays) (pc := 94) (tgt := 57) dX12_lays_94 (by decide) ?_
  exact sn_sub rfl (hk57 (x3 + (-1)))
def f_X12_lays_b57 (k9 : Int32 → Mo Unit) (k16 : Int32 → Mo Unit) (x0 : (Option Nat)) (x1 : Int32) (x2 : Int32) (k57 : Int32 → Mo Unit) (x3 : Int32) : Mo Unit :=
  (if x3 < 0 then k16 (x2 + 1) else mBd (mGetA 10 5 x0) (fun r11 => (if x3 < x2 then f_X12_lays_j83 k9 k16 k57 x0 x1 x2 x3 (0 : Int64) x3 r11 else mBd (mGetA 10 5 x0) (fun r14 => mBd (mLdJ r14 (x3 - x2)) (fun r15 => f_X12_lays_j83 k9 k16 k57 x0 x1 x2 x3 r15 x3 r11)))))
def f_X12_lays_l57 (k9 : Int32 → Mo Unit) (k16 : Int32 → Mo Unit) (x0 : (Option Nat)) (x1 : Int32) (x2 : Int32) : Int32 → Mo Unit := lq1 (f_X12_lays_b57 k9 k16 x0 x1 x2) fuel
set_option maxRecDepth 100000 in
theorem s_X12_lays_b57 {cx : CX} {k9 : Int32 → Mo Unit} {k16 : Int32 → Mo Unit} (x0 : (Option Nat)) (x1 : Int32) (x2 : Int32) (hk9 : ∀ (z1 : Int32), Sn cx m_X12_lays eV 9 [(1, vI z1), (0, vA x0)] [] (k9 z1)) (hk16 : ∀ (z2 : Int32), Sn cx m_X12_lays eV 16 [(2, vI z2), (0, vA x0), (1, vI x1)] [] (k16 z2)) {k57 : Int32 → Mo Unit} (hk57 : ∀ (z3 : Int32), Sn cx m_X12_lays eV 57 [(3, vI z3), (0, vA x0), (1, vI x1), (2, vI x2)] [] (k57 z3)) (x3 : Int32) : Sn cx m_X12_lays eV 57 [(3, vI x3), (0, vA x0), (1, vI x1), (2, vI x2)] [] (f_X12_lays_b57 k9 k16 x0 x1 x2 k57 x3) := by
  refine sn_iload_n (y := m_X12_lays) (pc := 57) dX12_lays_57 rfl ?_
  refine sn_if_lt (y := m_X12_lays) (pc := 58) (tgt := 97) dX12_lays_58 (by decide) (fun _ => ?_) (fun _ => ?_)
  · refine sn_goto (y := m_X12_lays) (pc := 97) (tgt := 144) dX12_lays_97 (by decide) ?_
    refine sn_iinc (y := m_X12_lays) (pc := 144) (v := x2 + 1) dX12_lays_144 rfl (by rfl) rfl ?_
    refine sn_goto (y := m_X12_lays) (pc := 147) (tgt := 16) dX12_lays_147 (by decide) ?_
    exact sn_sub rfl (hk16 (x2 + 1))
  refine sn_aload_n (y := m_X12_lays) (pc := 61) dX12_lays_61 rfl ?_
  refine sn_getA (y := m_X12_lays) (pc := 62) ca_10 rfl fk_X12_15 (fun _ _ _ => rfl) dX12_lays_62 (fun r11 => ?_)
  refine sn_iload_n (y := m_X12_lays) (pc := 65) dX12_lays_65 rfl ?_
  refine sn_iload_n (y := m_X12_lays) (pc := 66) dX12_lays_66 rfl ?_
  refine sn_iload_n (y := m_X12_lays) (pc := 67) dX12_lays_67 rfl ?_
  refine sn_icmp_lt (y := m_X12_lays) (pc := 68) (tgt := 82) dX12_lays_68 (by decide) (fun _ => ?_) (fun _ => ?_)
  · refine sn_lconst (y := m_X12_lays) (pc := 82) dX12_lays_82 kc_lconst_0 ?_
    exact sn_sub rfl (s_X12_lays_j83 x0 x1 x2 x3 (0 : Int64) x3 r11 hk9 hk16 hk57)
  refine sn_aload_n (y := m_X12_lays) (pc := 71) dX12_lays_71 rfl ?_
  refine sn_getA (y := m_X12_lays) (pc := 72) ca_10 rfl fk_X12_15 (fun _ _ _ => rfl) dX12_lays_72 (fun r14 => ?_)
  refine sn_iload_n (y := m_X12_lays) (pc := 75) dX12_lays_75 rfl ?_
  refine sn_iload_n (y := m_X12_lays) (pc := 76) dX12_lays_76 rfl ?_
  refine sn_isub (y := m_X12_lays) (pc := 77) dX12_lays_77 ?_
  refine sn_laload (y := m_X12_lays) (pc := 78) dX12_lays_78 (fun r15 => ?_)
  refine sn_goto (y := m_X12_lays) (pc := 79) (tgt := 83) dX12_lays_79 (by decide) ?_
  exact sn_sub rfl (s_X12_lays_j83 x0 x1 x2 x3 r15 x3 r11 hk9 hk16 hk57)
set_option maxRecDepth 100000 in
theorem s_X12_lays_l57 {cx : CX} {k9 : Int32 → Mo Unit} {k16 : Int32 → Mo Unit} (x0 : (Option Nat)) (x1 : Int32) (x2 : Int32) (hk9 : ∀ (z1 : Int32), Sn cx m_X12_lays eV 9 [(1, vI z1), (0, vA x0)] [] (k9 z1)) (hk16 : ∀ (z2 : Int32), Sn cx m_X12_lays eV 16 [(2, vI z2), (0, vA x0), (1, vI x1)] [] (k16 z2)) (x3 : Int32) : Sn cx m_X12_lays eV 57 [(3, vI x3), (0, vA x0), (1, vI x1), (2, vI x2)] [] (f_X12_lays_l57 k9 k16 x0 x1 x2 x3) :=
  sn_lq1 (L := fun x3 => [(3, vI x3), (0, vA x0), (1, vI x1), (2, vI x2)]) (fun k hk x3 => s_X12_lays_b57 x0 x1 x2 hk9 hk16 hk x3) fuel x3
def f_X12_lays_b16 (k9 : Int32 → Mo Unit) (x0 : (Option Nat)) (x1 : Int32) (k16 : Int32 → Mo Unit) (x2 : Int32) : Mo Unit :=
  mBd (mGetI 10 1 x0) (fun r2 => (if x2 > r2 then k9 (x1 + (-2)) else mBd (mGetI 10 1 x0) (fun r3 => mRq (¬ x2 = 0) ((if ¬ (irem r3 x2) = 0 then k16 (x2 + 1) else mBd (mGetI 10 1 x0) (fun r4 => mRq (¬ x2 = 0) (mBd (f_X12_sign (r4 / x2)) (fun r5 => (if r5 = x1 then (if ¬ x1 = (1 : Int32) then f_X12_lays_l102 k9 k16 x0 x1 x2 (0 : Int32) else f_X12_lays_l57 k9 k16 x0 x1 x2 (12 : Int32)) else k16 (x2 + 1))))))))))
def f_X12_lays_l16 (k9 : Int32 → Mo Unit) (x0 : (Option Nat)) (x1 : Int32) : Int32 → Mo Unit := lq1 (f_X12_lays_b16 k9 x0 x1) fuel
set_option maxRecDepth 100000 in
theorem s_X12_lays_b16 {cx : CX} {k9 : Int32 → Mo Unit} (x0 : (Option Nat)) (x1 : Int32) (hk9 : ∀ (z1 : Int32), Sn cx m_X12_lays eV 9 [(1, vI z1), (0, vA x0)] [] (k9 z1)) {k16 : Int32 → Mo Unit} (hk16 : ∀ (z2 : Int32), Sn cx m_X12_lays eV 16 [(2, vI z2), (0, vA x0), (1, vI x1)] [] (k16 z2)) (x2 : Int32) : Sn cx m_X12_lays eV 16 [(2, vI x2), (0, vA x0), (1, vI x1)] [] (f_X12_lays_b16 k9 x0 x1 k16 x2) := by
  refine sn_iload_n (y := m_X12_lays) (pc := 16) dX12_lays_16 rfl ?_
  refine sn_aload_n (y := m_X12_lays) (pc := 17) dX12_lays_17 rfl ?_
  refine sn_getI (y := m_X12_lays) (pc := 18) ca_10 rfl fk_X12_23 (fun _ _ _ => rfl) dX12_lays_18 (fun r2 => ?_)
  refine sn_icmp_gt (y := m_X12_lays) (pc := 21) (tgt := 150) dX12_lays_21 (by decide) (fun _ => ?_) (fun _ => ?_)
  · refine sn_iinc (y := m_X12_lays) (pc := 150) (v := x1 + (-2)) dX12_lays_150 rfl (by rfl) rfl ?_
    refine sn_goto (y := m_X12_lays) (pc := 153) (tgt := 9) dX12_lays_153 (by decide) ?_
    exact sn_sub rfl (hk9 (x1 + (-2)))
  refine sn_aload_n (y := m_X12_lays) (pc := 24) dX12_lays_24 rfl ?_
  refine sn_getI (y := m_X12_lays) (pc := 25) ca_10 rfl fk_X12_23 (fun _ _ _ => rfl) dX12_lays_25 (fun r3 => ?_)
  refine sn_iload_n (y := m_X12_lays) (pc := 28) dX12_lays_28 rfl ?_
  refine sn_irem (y := m_X12_lays) (pc := 29) dX12_lays_29 ?_
  refine sn_if_ne (y := m_X12_lays) (pc := 30) (tgt := 144) dX12_lays_30 (by decide) (fun _ => ?_) (fun _ => ?_)
  · refine sn_iinc (y := m_X12_lays) (pc := 144) (v := x2 + 1) dX12_lays_144 rfl (by rfl) rfl ?_
    refine sn_goto (y := m_X12_lays) (pc := 147) (tgt := 16) dX12_lays_147 (by decide) ?_
    exact sn_sub rfl (hk16 (x2 + 1))
  refine sn_aload_n (y := m_X12_lays) (pc := 33) dX12_lays_33 rfl ?_
  refine sn_getI (y := m_X12_lays) (pc := 34) ca_10 rfl fk_X12_23 (fun _ _ _ => rfl) dX12_lays_34 (fun r4 => ?_)
  refine sn_iload_n (y := m_X12_lays) (pc := 37) dX12_lays_37 rfl ?_
  refine sn_idiv (y := m_X12_lays) (pc := 38) dX12_lays_38 ?_
  refine sn_invS (y := m_X12_lays) (pc := 39) (av := [vI (r4 / x2)]) (st := []) dX12_lays_39 lk_X12_43 sw_X12_sign rfl rfl rfl ⟨by decide, by decide⟩ (c_X12_sign cx.1 (r4 / x2)) (fun r5 => ?_)
  refine sn_iload_n (y := m_X12_lays) (pc := 42) dX12_lays_42 rfl ?_
  refine sn_icmp_eq (y := m_X12_lays) (pc := 43) (tgt := 49) dX12_lays_43 (by decide) (fun _ => ?_) (fun _ => ?_)
  · refine sn_iload_n (y := m_X12_lays) (pc := 49) dX12_lays_49 rfl ?_
    refine sn_iconst (y := m_X12_lays) (pc := 50) dX12_lays_50 kc_iconst_1 ?_
    refine sn_icmp_ne (y := m_X12_lays) (pc := 51) (tgt := 100) dX12_lays_51 (by decide) (fun _ => ?_) (fun _ => ?_)
    · refine sn_iconst (y := m_X12_lays) (pc := 100) dX12_lays_100 kc_iconst_0 ?_
      refine sn_istore_n (y := m_X12_lays) (pc := 101) dX12_lays_101 rfl ?_
      exact sn_sub rfl (s_X12_lays_l102 x0 x1 x2 hk9 hk16 (0 : Int32))
    refine sn_bipush (y := m_X12_lays) (pc := 54) dX12_lays_54 kc_bipush_12 ?_
    refine sn_istore_n (y := m_X12_lays) (pc := 56) dX12_lays_56 rfl ?_
    exact sn_sub rfl (s_X12_lays_l57 x0 x1 x2 hk9 hk16 (12 : Int32))
  refine sn_goto (y := m_X12_lays) (pc := 46) (tgt := 144) dX12_lays_46 (by decide) ?_
  refine sn_iinc (y := m_X12_lays) (pc := 144) (v := x2 + 1) dX12_lays_144 rfl (by rfl) rfl ?_
  refine sn_goto (y := m_X12_lays) (pc := 147) (tgt := 16) dX12_lays_147 (by decide) ?_
  exact sn_sub rfl (hk16 (x2 + 1))
set_option maxRecDepth 100000 in
theorem s_X12_lays_l16 {cx : CX} {k9 : Int32 → Mo Unit} (x0 : (Option Nat)) (x1 : Int32) (hk9 : ∀ (z1 : Int32), Sn cx m_X12_lays eV 9 [(1, vI z1), (0, vA x0)] [] (k9 z1)) (x2 : Int32) : Sn cx m_X12_lays eV 16 [(2, vI x2), (0, vA x0), (1, vI x1)] [] (f_X12_lays_l16 k9 x0 x1 x2) :=
  sn_lq1 (L := fun x2 => [(2, vI x2), (0, vA x0), (1, vI x1)]) (fun k hk x2 => s_X12_lays_b16 x0 x1 hk9 hk x2) fuel x2
def f_X12_lays_b9 (x0 : (Option Nat)) (k9 : Int32 → Mo Unit) (x1 : Int32) : Mo Unit :=
  (if x1 < (-1 : Int32) then mRt () else f_X12_lays_l16 k9 x0 x1 (1 : Int32))
def f_X12_lays_l9 (x0 : (Option Nat)) : Int32 → Mo Unit := lq1 (f_X12_lays_b9 x0) fuel
set_option maxRecDepth 100000 in
theorem s_X12_lays_b9 {cx : CX} (x0 : (Option Nat)) {k9 : Int32 → Mo Unit} (hk9 : ∀ (z1 : Int32), Sn cx m_X12_lays eV 9 [(1, vI z1), (0, vA x0)] [] (k9 z1)) (x1 : Int32) : Sn cx m_X12_lays eV 9 [(1, vI x1), (0, vA x0)] [] (f_X12_lays_b9 x0 k9 x1) := by
  refine sn_iload_n (y := m_X12_lays) (pc := 9) dX12_lays_9 rfl ?_
  refine sn_iconst (y := m_X12_lays) (pc := 10) dX12_lays_10 kc_iconst_m1 ?_
  refine sn_icmp_lt (y := m_X12_lays) (pc := 11) (tgt := 156) dX12_lays_11 (by decide) (fun _ => ?_) (fun _ => ?_)
  · exact sn_return rfl dX12_lays_156
  refine sn_iconst (y := m_X12_lays) (pc := 14) dX12_lays_14 kc_iconst_1 ?_
  refine sn_istore_n (y := m_X12_lays) (pc := 15) dX12_lays_15 rfl ?_
  exact sn_sub rfl (s_X12_lays_l16 x0 x1 hk9 (1 : Int32))
set_option maxRecDepth 100000 in
theorem s_X12_lays_l9 {cx : CX} (x0 : (Option Nat)) (x1 : Int32) : Sn cx m_X12_lays eV 9 [(1, vI x1), (0, vA x0)] [] (f_X12_lays_l9 x0 x1) :=
  sn_lq1 (L := fun x1 => [(1, vI x1), (0, vA x0)]) (fun k hk x1 => s_X12_lays_b9 x0 hk x1) fuel x1
def f_X12_lays (p0 : (Option Nat)) : Mo Unit :=
  mBd (mGetA 10 5 p0) (fun r1 => mBd (mStJ r1 (0 : Int32) (1 : Int64)) (fun _ => f_X12_lays_l9 p0 (1 : Int32)))
set_option maxRecDepth 100000 in
theorem s_X12_lays {cx : CX} (p0 : (Option Nat)) : Sn cx m_X12_lays eV 0 [(0, vA p0)] [] (f_X12_lays p0) := by
  refine sn_aload_n (y := m_X12_lays) (pc := 0) dX12_lays_0 rfl ?_
  refine sn_getA (y := m_X12_lays) (pc := 1) ca_10 rfl fk_X12_15 (fun _ _ _ => rfl) dX12_lays_1 (fun r1 => ?_)
  refine sn_iconst (y := m_X12_lays) (pc := 4) dX12_lays_4 kc_iconst_0 ?_
  refine sn_lconst (y := m_X12_lays) (pc := 5) dX12_lays_5 kc_lconst_1 ?_
  refine sn_lastore (y := m_X12_lays) (pc := 6) dX12_lays_6 ?_
  refine sn_iconst (y := m_X12_lays) (pc := 7) dX12_lays_7 kc_iconst_1 ?_
  refine sn_istore_n (y := m_X12_lays) (pc := 8) dX12_lays_8 rfl ?_
  exact sn_sub rfl (s_X12_lays_l9 p0 (1 : Int32))
set_option maxRecDepth 100000 in
theorem c_X12_lays (g : Gl) (p0 : (Option Nat)) : Cn g m_X12_lays eV [vA p0] (mCk 10 p0 (f_X12_lays p0)) := cn_of_sn (by decide +kernel) rfl (fun _ => rfl) rfl (fun _ _ => sn_ck (s_X12_lays p0))
/-! X12_init -/
def f_X12_init_b95 (x0 : (Option Nat)) (x2 : Int32) (k95 : Int32 → Int32 → Mo Unit) (x5 : Int32) (x6 : Int32) : Mo Unit :=
  (if x6 > x2 then mBd (mPutI 10 3 x0 x5) (fun _ => mBd (mCk 10 x0 (f_X12_lays x0)) (fun _ => mRt ())) else mBd (f_X13_divisor x2 x6) (fun r4 => (if ¬ r4 = (1 : Int32) then mNm (x5 + (0 : Int32)) (fun n5 => k95 n5 (x6 + 1)) else mNm (x5 + (1 : Int32)) (fun n6 => k95 n6 (x6 + 1)))))
def f_X12_init_l95 (x0 : (Option Nat)) (x2 : Int32) : Int32 → Int32 → Mo Unit := lq2 (f_X12_init_b95 x0 x2) fuel
set_option maxRecDepth 100000 in
theorem s_X12_init_b95 {cx : CX} (x0 : (Option Nat)) (x2 : Int32) {k95 : Int32 → Int32 → Mo Unit} (hk95 : ∀ (z5 : Int32) (z6 : Int32), Sn cx m_X12_init eV 95 [(5, vI z5), (6, vI z6), (0, vA x0), (2, vI x2)] [] (k95 z5 z6)) (x5 : Int32) (x6 : Int32) : Sn cx m_X12_init eV 95 [(5, vI x5), (6, vI x6), (0, vA x0), (2, vI x2)] [] (f_X12_init_b95 x0 x2 k95 x5 x6) := by
  refine sn_iload (y := m_X12_init) (pc := 95) dX12_init_95 rfl ?_
  refine sn_iload_n (y := m_X12_init) (pc := 97) dX12_init_97 rfl ?_
  refine sn_icmp_gt (y := m_X12_init) (pc := 98) (tgt := 127) dX12_init_98 (by decide) (fun _ => ?_) (fun _ => ?_)
  · refine sn_aload_n (y := m_X12_init) (pc := 127) dX12_init_127 rfl ?_
    refine sn_iload (y := m_X12_init) (pc := 128) dX12_init_128 rfl ?_
    refine sn_putI (y := m_X12_init) (pc := 130) ca_10 rfl fk_X12_37 (Or.inr ⟨rfl, rfl, rfl, fkm_X12_37⟩) rfl dX12_init_130 ?_
    refine sn_aload_n (y := m_X12_init) (pc := 133) dX12_init_133 rfl ?_
    refine sn_invV (y := m_X12_init) (pc := 134) ca_10 (av := []) (o := x0) (st := []) dX12_init_134 lk_X12_40 im_X12_lays se_X12_lays rfl rfl rfl rfl ⟨by decide, by decide⟩ (c_X12_lays cx.1 x0) (fun _ => ?_)
    exact sn_return rfl dX12_init_137
  refine sn_iload (y := m_X12_init) (pc := 101) dX12_init_101 rfl ?_
  refine sn_iload_n (y := m_X12_init) (pc := 103) dX12_init_103 rfl ?_
  refine sn_iload (y := m_X12_init) (pc := 104) dX12_init_104 rfl ?_
  refine sn_invSN (y := m_X12_init) (pc := 106) (av := [vI x2, vI x6]) (st := [vI x5]) dX12_init_106 lk_X12_33 sw_X13_divisor rfl rfl rfl ⟨by decide, by decide⟩ (c_X13_divisor cx.1 x2 x6) (fun r4 => ?_)
  refine sn_iconst (y := m_X12_init) (pc := 109) dX12_init_109 kc_iconst_1 ?_
  refine sn_icmp_ne (y := m_X12_init) (pc := 110) (tgt := 117) dX12_init_110 (by decide) (fun _ => ?_) (fun _ => ?_)
  · refine sn_iconst (y := m_X12_init) (pc := 117) dX12_init_117 kc_iconst_0 ?_
    refine sn_iadd (y := m_X12_init) (pc := 118) dX12_init_118 ?_
    refine sn_istoreM (y := m_X12_init) (pc := 119) dX12_init_119 rfl (fun n5 => ?_)
    refine sn_iinc (y := m_X12_init) (pc := 121) (v := x6 + 1) dX12_init_121 rfl (by rfl) rfl ?_
    refine sn_goto (y := m_X12_init) (pc := 124) (tgt := 95) dX12_init_124 (by decide) ?_
    exact sn_sub rfl (hk95 n5 (x6 + 1))
  refine sn_iconst (y := m_X12_init) (pc := 113) dX12_init_113 kc_iconst_1 ?_
  refine sn_goto (y := m_X12_init) (pc := 114) (tgt := 118) dX12_init_114 (by decide) ?_
  refine sn_iadd (y := m_X12_init) (pc := 118) dX12_init_118 ?_
  refine sn_istoreM (y := m_X12_init) (pc := 119) dX12_init_119 rfl (fun n6 => ?_)
  refine sn_iinc (y := m_X12_init) (pc := 121) (v := x6 + 1) dX12_init_121 rfl (by rfl) rfl ?_
  refine sn_goto (y := m_X12_init) (pc := 124) (tgt := 95) dX12_init_124 (by decide) ?_
  exact sn_sub rfl (hk95 n6 (x6 + 1))
set_option maxRecDepth 100000 in
theorem s_X12_init_l95 {cx : CX} (x0 : (Option Nat)) (x2 : Int32) (x5 : Int32) (x6 : Int32) : Sn cx m_X12_init eV 95 [(5, vI x5), (6, vI x6), (0, vA x0), (2, vI x2)] [] (f_X12_init_l95 x0 x2 x5 x6) :=
  sn_lq2 (L := fun x5 x6 => [(5, vI x5), (6, vI x6), (0, vA x0), (2, vI x2)]) (fun k hk x5 x6 => s_X12_init_b95 x0 x2 hk x5 x6) fuel x5 x6
def f_X12_init_b58 (x0 : (Option Nat)) (x1 : Int32) (x2 : Int32) (x3 : Int32) (k58 : Int32 → Int32 → Mo Unit) (x4 : Int32) (x5 : Int32) : Mo Unit :=
  (if x5 ≥ (x1 - (1 : Int32)) then f_X12_init_l95 x0 x2 (0 : Int32) (1 : Int32) else mBd (mGetA 10 4 x0) (fun r7 => mBd (mStI r7 x4 x5) (fun _ => mRq (¬ x1 = 0) (mNm (irem (x4 * x3) x1) (fun n8 => k58 n8 (x5 + 1))))))
def f_X12_init_l58 (x0 : (Option Nat)) (x1 : Int32) (x2 : Int32) (x3 : Int32) : Int32 → Int32 → Mo Unit := lq2 (f_X12_init_b58 x0 x1 x2 x3) fuel
set_option maxRecDepth 100000 in
theorem s_X12_init_b58 {cx : CX} (x0 : (Option Nat)) (x1 : Int32) (x2 : Int32) (x3 : Int32) {k58 : Int32 → Int32 → Mo Unit} (hk58 : ∀ (z4 : Int32) (z5 : Int32), Sn cx m_X12_init eV 58 [(4, vI z4), (5, vI z5), (0, vA x0), (1, vI x1), (2, vI x2), (3, vI x3)] [] (k58 z4 z5)) (x4 : Int32) (x5 : Int32) : Sn cx m_X12_init eV 58 [(4, vI x4), (5, vI x5), (0, vA x0), (1, vI x1), (2, vI x2), (3, vI x3)] [] (f_X12_init_b58 x0 x1 x2 x3 k58 x4 x5) := by
  refine sn_iload (y := m_X12_init) (pc := 58) dX12_init_58 rfl ?_
  refine sn_iload_n (y := m_X12_init) (pc := 60) dX12_init_60 rfl ?_
  refine sn_iconst (y := m_X12_init) (pc := 61) dX12_init_61 kc_iconst_1 ?_
  refine sn_isub (y := m_X12_init) (pc := 62) dX12_init_62 ?_
  refine sn_icmp_ge (y := m_X12_init) (pc := 63) (tgt := 89) dX12_init_63 (by decide) (fun _ => ?_) (fun _ => ?_)
  · refine sn_iconst (y := m_X12_init) (pc := 89) dX12_init_89 kc_iconst_0 ?_
    refine sn_istore (y := m_X12_init) (pc := 90) dX12_init_90 rfl ?_
    refine sn_iconst (y := m_X12_init) (pc := 92) dX12_init_92 kc_iconst_1 ?_
    refine sn_istore (y := m_X12_init) (pc := 93) dX12_init_93 rfl ?_
    exact sn_sub rfl (s_X12_init_l95 x0 x2 (0 : Int32) (1 : Int32))
  refine sn_aload_n (y := m_X12_init) (pc := 66) dX12_init_66 rfl ?_
  refine sn_getA (y := m_X12_init) (pc := 67) ca_10 rfl fk_X12_9 (fun _ _ _ => rfl) dX12_init_67 (fun r7 => ?_)
  refine sn_iload (y := m_X12_init) (pc := 70) dX12_init_70 rfl ?_
  refine sn_iload (y := m_X12_init) (pc := 72) dX12_init_72 rfl ?_
  refine sn_iastore (y := m_X12_init) (pc := 74) dX12_init_74 ?_
  refine sn_iload (y := m_X12_init) (pc := 75) dX12_init_75 rfl ?_
  refine sn_iload_n (y := m_X12_init) (pc := 77) dX12_init_77 rfl ?_
  refine sn_imul (y := m_X12_init) (pc := 78) dX12_init_78 ?_
  refine sn_iload_n (y := m_X12_init) (pc := 79) dX12_init_79 rfl ?_
  refine sn_irem (y := m_X12_init) (pc := 80) dX12_init_80 ?_
  refine sn_istoreM (y := m_X12_init) (pc := 81) dX12_init_81 rfl (fun n8 => ?_)
  refine sn_iinc (y := m_X12_init) (pc := 83) (v := x5 + 1) dX12_init_83 rfl (by rfl) rfl ?_
  refine sn_goto (y := m_X12_init) (pc := 86) (tgt := 58) dX12_init_86 (by decide) ?_
  exact sn_sub rfl (hk58 n8 (x5 + 1))
set_option maxRecDepth 100000 in
theorem s_X12_init_l58 {cx : CX} (x0 : (Option Nat)) (x1 : Int32) (x2 : Int32) (x3 : Int32) (x4 : Int32) (x5 : Int32) : Sn cx m_X12_init eV 58 [(4, vI x4), (5, vI x5), (0, vA x0), (1, vI x1), (2, vI x2), (3, vI x3)] [] (f_X12_init_l58 x0 x1 x2 x3 x4 x5) :=
  sn_lq2 (L := fun x4 x5 => [(4, vI x4), (5, vI x5), (0, vA x0), (1, vI x1), (2, vI x2), (3, vI x3)]) (fun k hk x4 x5 => s_X12_init_b58 x0 x1 x2 x3 hk x4 x5) fuel x4 x5
def f_X12_init_b33 (x0 : (Option Nat)) (x1 : Int32) (x2 : Int32) (k33 : Int32 → Mo Unit) (x3 : Int32) : Mo Unit :=
  mBd (mCk 10 x0 (f_X12_isRoot x0 x3)) (fun r3 => (if ¬ r3 = 0 then mBd (mPutI 10 2 x0 x3) (fun _ => f_X12_init_l58 x0 x1 x2 x3 (1 : Int32) (0 : Int32)) else k33 (x3 + 1)))
def f_X12_init_l33 (x0 : (Option Nat)) (x1 : Int32) (x2 : Int32) : Int32 → Mo Unit := lq1 (f_X12_init_b33 x0 x1 x2) fuel
set_option maxRecDepth 100000 in
theorem s_X12_init_b33 {cx : CX} (x0 : (Option Nat)) (x1 : Int32) (x2 : Int32) {k33 : Int32 → Mo Unit} (hk33 : ∀ (z3 : Int32), Sn cx m_X12_init eV 33 [(3, vI z3), (0, vA x0), (1, vI x1), (2, vI x2)] [] (k33 z3)) (x3 : Int32) : Sn cx m_X12_init eV 33 [(3, vI x3), (0, vA x0), (1, vI x1), (2, vI x2)] [] (f_X12_init_b33 x0 x1 x2 k33 x3) := by
  refine sn_aload_n (y := m_X12_init) (pc := 33) dX12_init_33 rfl ?_
  refine sn_iload_n (y := m_X12_init) (pc := 34) dX12_init_34 rfl ?_
  refine sn_invV (y := m_X12_init) (pc := 35) ca_10 (av := [vI x3]) (o := x0) (st := []) dX12_init_35 lk_X12_26 im_X12_isRoot se_X12_isRoot rfl rfl rfl rfl ⟨by decide, by decide⟩ (c_X12_isRoot cx.1 x0 x3) (fun r3 => ?_)
  refine sn_if_ne (y := m_X12_init) (pc := 38) (tgt := 47) dX12_init_38 (by decide) (fun _ => ?_) (fun _ => ?_)
  · refine sn_aload_n (y := m_X12_init) (pc := 47) dX12_init_47 rfl ?_
    refine sn_iload_n (y := m_X12_init) (pc := 48) dX12_init_48 rfl ?_
    refine sn_putI (y := m_X12_init) (pc := 49) ca_10 rfl fk_X12_30 (Or.inr ⟨rfl, rfl, rfl, fkm_X12_30⟩) rfl dX12_init_49 ?_
    refine sn_iconst (y := m_X12_init) (pc := 52) dX12_init_52 kc_iconst_1 ?_
    refine sn_istore (y := m_X12_init) (pc := 53) dX12_init_53 rfl ?_
    refine sn_iconst (y := m_X12_init) (pc := 55) dX12_init_55 kc_iconst_0 ?_
    refine sn_istore (y := m_X12_init) (pc := 56) dX12_init_56 rfl ?_
    exact sn_sub rfl (s_X12_init_l58 x0 x1 x2 x3 (1 : Int32) (0 : Int32))
  refine sn_iinc (y := m_X12_init) (pc := 41) (v := x3 + 1) dX12_init_41 rfl (by rfl) rfl ?_
  refine sn_goto (y := m_X12_init) (pc := 44) (tgt := 33) dX12_init_44 (by decide) ?_
  exact sn_sub rfl (hk33 (x3 + 1))
set_option maxRecDepth 100000 in
theorem s_X12_init_l33 {cx : CX} (x0 : (Option Nat)) (x1 : Int32) (x2 : Int32) (x3 : Int32) : Sn cx m_X12_init eV 33 [(3, vI x3), (0, vA x0), (1, vI x1), (2, vI x2)] [] (f_X12_init_l33 x0 x1 x2 x3) :=
  sn_lq1 (L := fun x3 => [(3, vI x3), (0, vA x0), (1, vI x1), (2, vI x2)]) (fun k hk x3 => s_X12_init_b33 x0 x1 x2 hk x3) fuel x3
def f_X12_init (p0 : (Option Nat)) (p1 : Int32) (p2 : Int32) : Mo Unit :=
  mCk 10 p0 (mBd (mNewA 1 (200 : Int32)) (fun r1 => mBd (mPutA 10 4 p0 r1) (fun _ => mBd (mNewA 2 (13 : Int32)) (fun r2 => mBd (mPutA 10 5 p0 r2) (fun _ => mBd (mPutI 10 0 p0 p1) (fun _ => mBd (mPutI 10 1 p0 p2) (fun _ => f_X12_init_l33 p0 p1 p2 (1 : Int32))))))))
set_option maxRecDepth 100000 in
theorem s_X12_init {cx : CX} (p0 : (Option Nat)) (p1 : Int32) (p2 : Int32) : Sn cx m_X12_init eV 0 [(0, vA p0), (1, vI p1), (2, vI p2)] [] (f_X12_init p0 p1 p2) := by
  refine sn_aload_n (y := m_X12_init) (pc := 0) dX12_init_0 rfl ?_
  refine sn_objInit (y := m_X12_init) (pc := 1) oi_X12_3 oi_1 oi_2 dX12_init_1 rfl ⟨by decide, by decide⟩ ?_
  refine sn_aload_n (y := m_X12_init) (pc := 4) dX12_init_4 rfl ?_
  refine sn_sipush (y := m_X12_init) (pc := 5) dX12_init_5 kc_sipush_200 ?_
  refine sn_newarray (y := m_X12_init) (pc := 8) (t := 1) rfl (Or.inl rfl) ac_int dX12_init_8 (fun r1 => ?_)
  refine sn_putA (y := m_X12_init) (pc := 10) ca_10 rfl fk_X12_9 (Or.inr ⟨rfl, rfl, rfl, fkm_X12_9⟩) rfl dX12_init_10 ?_
  refine sn_aload_n (y := m_X12_init) (pc := 13) dX12_init_13 rfl ?_
  refine sn_bipush (y := m_X12_init) (pc := 14) dX12_init_14 kc_bipush_13 ?_
  refine sn_newarray (y := m_X12_init) (pc := 16) (t := 2) rfl (Or.inr (Or.inl rfl)) ac_long dX12_init_16 (fun r2 => ?_)
  refine sn_putA (y := m_X12_init) (pc := 18) ca_10 rfl fk_X12_15 (Or.inr ⟨rfl, rfl, rfl, fkm_X12_15⟩) rfl dX12_init_18 ?_
  refine sn_aload_n (y := m_X12_init) (pc := 21) dX12_init_21 rfl ?_
  refine sn_iload_n (y := m_X12_init) (pc := 22) dX12_init_22 rfl ?_
  refine sn_putI (y := m_X12_init) (pc := 23) ca_10 rfl fk_X12_19 (Or.inr ⟨rfl, rfl, rfl, fkm_X12_19⟩) rfl dX12_init_23 ?_
  refine sn_aload_n (y := m_X12_init) (pc := 26) dX12_init_26 rfl ?_
  refine sn_iload_n (y := m_X12_init) (pc := 27) dX12_init_27 rfl ?_
  refine sn_putI (y := m_X12_init) (pc := 28) ca_10 rfl fk_X12_23 (Or.inr ⟨rfl, rfl, rfl, fkm_X12_23⟩) rfl dX12_init_28 ?_
  refine sn_iconst (y := m_X12_init) (pc := 31) dX12_init_31 kc_iconst_1 ?_
  refine sn_istore_n (y := m_X12_init) (pc := 32) dX12_init_32 rfl ?_
  exact sn_sub rfl (s_X12_init_l33 p0 p1 p2 (1 : Int32))
set_option maxRecDepth 100000 in
theorem c_X12_init (g : Gl) (p0 : (Option Nat)) (p1 : Int32) (p2 : Int32) : Cn g m_X12_init eV [vA p0, vI p1, vI p2] (mCk 10 p0 (f_X12_init p0 p1 p2)) := cn_of_sn (by decide +kernel) rfl (fun _ => rfl) rfl (fun _ _ => sn_ck (s_X12_init p0 p1 p2))
/-! X13_in -/
def f_X13_in (p0 : Int32) (p1 : Int32) (p2 : Int32) : Mo Int32 :=
  (if p0 < p1 then mRt (0 : Int32) else (if p0 > p2 then mRt (0 : Int32) else mRt (1 : Int32)))
set_option maxRecDepth 100000 in
theorem s_X13_in {cx : CX} (p0 : Int32) (p1 : Int32) (p2 : Int32) : Sn cx m_X13_in eI 0 [(0, vI p0), (1, vI p1), (2, vI p2)] [] (f_X13_in p0 p1 p2) := by
  refine sn_iload_n (y := m_X13_in) (pc := 0) dX13_in_0 rfl ?_
  refine sn_iload_n (y := m_X13_in) (pc := 1) dX13_in_1 rfl ?_
  refine sn_icmp_lt (y := m_X13_in) (pc := 2) (tgt := 14) dX13_in_2 (by decide) (fun _ => ?_) (fun _ => ?_)
  · refine sn_iconst (y := m_X13_in) (pc := 14) dX13_in_14 kc_iconst_0 ?_
    exact sn_zreturnC (by decide) rfl dX13_in_15
  refine sn_iload_n (y := m_X13_in) (pc := 5) dX13_in_5 rfl ?_
  refine sn_iload_n (y := m_X13_in) (pc := 6) dX13_in_6 rfl ?_
  refine sn_icmp_gt (y := m_X13_in) (pc := 7) (tgt := 14) dX13_in_7 (by decide) (fun _ => ?_) (fun _ => ?_)
  · refine sn_iconst (y := m_X13_in) (pc := 14) dX13_in_14 kc_iconst_0 ?_
    exact sn_zreturnC (by decide) rfl dX13_in_15
  refine sn_iconst (y := m_X13_in) (pc := 10) dX13_in_10 kc_iconst_1 ?_
  refine sn_goto (y := m_X13_in) (pc := 11) (tgt := 15) dX13_in_11 (by decide) ?_
  exact sn_zreturnC (by decide) rfl dX13_in_15
set_option maxRecDepth 100000 in
theorem c_X13_in (g : Gl) (p0 : Int32) (p1 : Int32) (p2 : Int32) : Cn g m_X13_in eI [vI p0, vI p1, vI p2] (f_X13_in p0 p1 p2) := cn_of_sn (by decide +kernel) rfl (fun r => ⟨r, rfl⟩) rfl (fun _ _ => s_X13_in p0 p1 p2)
/-! X12_isUnit -/
def f_X12_isUnit (p0 : (Option Nat)) (p1 : Int32) : Mo Int32 :=
  mBd (mGetI 10 1 p0) (fun r1 => mBd (f_X13_in p1 (1 : Int32) (r1 - (1 : Int32))) (fun r2 => (if r2 = 0 then mRt (0 : Int32) else mBd (mGetI 10 1 p0) (fun r3 => mBd (f_X13_divisor r3 p1) (fun r4 => (if ¬ r4 = (1 : Int32) then mRt (0 : Int32) else mRt (1 : Int32)))))))
set_option maxRecDepth 100000 in
theorem s_X12_isUnit {cx : CX} (p0 : (Option Nat)) (p1 : Int32) : Sn cx m_X12_isUnit eI 0 [(0, vA p0), (1, vI p1)] [] (f_X12_isUnit p0 p1) := by
  refine sn_iload_n (y := m_X12_isUnit) (pc := 0) dX12_isUnit_0 rfl ?_
  refine sn_iconst (y := m_X12_isUnit) (pc := 1) dX12_isUnit_1 kc_iconst_1 ?_
  refine sn_aload_n (y := m_X12_isUnit) (pc := 2) dX12_isUnit_2 rfl ?_
  refine sn_getI (y := m_X12_isUnit) (pc := 3) ca_10 rfl fk_X12_23 (fun _ _ _ => rfl) dX12_isUnit_3 (fun r1 => ?_)
  refine sn_iconst (y := m_X12_isUnit) (pc := 6) dX12_isUnit_6 kc_iconst_1 ?_
  refine sn_isub (y := m_X12_isUnit) (pc := 7) dX12_isUnit_7 ?_
  refine sn_invSN (y := m_X12_isUnit) (pc := 8) (av := [vI p1, vI (1 : Int32), vI (r1 - (1 : Int32))]) (st := []) dX12_isUnit_8 lk_X12_47 sw_X13_in rfl rfl rfl ⟨by decide, by decide⟩ (c_X13_in cx.1 p1 (1 : Int32) (r1 - (1 : Int32))) (fun r2 => ?_)
  refine sn_if_eq (y := m_X12_isUnit) (pc := 11) (tgt := 30) dX12_isUnit_11 (by decide) (fun _ => ?_) (fun _ => ?_)
  · refine sn_iconst (y := m_X12_isUnit) (pc := 30) dX12_isUnit_30 kc_iconst_0 ?_
    exact sn_zreturnC (by decide) rfl dX12_isUnit_31
  refine sn_aload_n (y := m_X12_isUnit) (pc := 14) dX12_isUnit_14 rfl ?_
  refine sn_getI (y := m_X12_isUnit) (pc := 15) ca_10 rfl fk_X12_23 (fun _ _ _ => rfl) dX12_isUnit_15 (fun r3 => ?_)
  refine sn_iload_n (y := m_X12_isUnit) (pc := 18) dX12_isUnit_18 rfl ?_
  refine sn_invSN (y := m_X12_isUnit) (pc := 19) (av := [vI r3, vI p1]) (st := []) dX12_isUnit_19 lk_X12_33 sw_X13_divisor rfl rfl rfl ⟨by decide, by decide⟩ (c_X13_divisor cx.1 r3 p1) (fun r4 => ?_)
  refine sn_iconst (y := m_X12_isUnit) (pc := 22) dX12_isUnit_22 kc_iconst_1 ?_
  refine sn_icmp_ne (y := m_X12_isUnit) (pc := 23) (tgt := 30) dX12_isUnit_23 (by decide) (fun _ => ?_) (fun _ => ?_)
  · refine sn_iconst (y := m_X12_isUnit) (pc := 30) dX12_isUnit_30 kc_iconst_0 ?_
    exact sn_zreturnC (by decide) rfl dX12_isUnit_31
  refine sn_iconst (y := m_X12_isUnit) (pc := 26) dX12_isUnit_26 kc_iconst_1 ?_
  refine sn_goto (y := m_X12_isUnit) (pc := 27) (tgt := 31) dX12_isUnit_27 (by decide) ?_
  exact sn_zreturnC (by decide) rfl dX12_isUnit_31
set_option maxRecDepth 100000 in
theorem c_X12_isUnit (g : Gl) (p0 : (Option Nat)) (p1 : Int32) : Cn g m_X12_isUnit eI [vA p0, vI p1] (mCk 10 p0 (f_X12_isUnit p0 p1)) := cn_of_sn (by decide +kernel) rfl (fun r => ⟨r, rfl⟩) rfl (fun _ _ => sn_ck (s_X12_isUnit p0 p1))
/-! X13_init -/
def f_X13_init (p0 : (Option Nat)) : Mo Unit :=
  mCk 11 p0 (mBd (mPutI 11 2 p0 (-1 : Int32)) (fun _ => mBd (mNewA 2 (576 : Int32)) (fun r1 => mBd (mPutA 11 5 p0 r1) (fun _ => mBd (mNewA 2 (12 : Int32)) (fun r2 => mBd (mPutA 11 6 p0 r2) (fun _ => mBd (mNewA 3 (900 : Int32)) (fun r3 => mBd (mPutA 11 7 p0 r3) (fun _ => mBd (mNewA 1 (199 : Int32)) (fun r4 => mBd (mPutA 11 21 p0 r4) (fun _ => mBd (mNewA 1 (199 : Int32)) (fun r5 => mBd (mPutA 11 22 p0 r5) (fun _ => mBd (mNewA 1 (199 : Int32)) (fun r6 => mBd (mPutA 11 23 p0 r6) (fun _ => mBd (mNewA 2 (49 : Int32)) (fun r7 => mBd (mPutA 11 24 p0 r7) (fun _ => mBd (mNewA 2 (980 : Int32)) (fun r8 => mBd (mPutA 11 25 p0 r8) (fun _ => mBd (mNewA 2 (980 : Int32)) (fun r9 => mBd (mPutA 11 26 p0 r9) (fun _ => mBd (mNewA 2 (196 : Int32)) (fun r10 => mBd (mPutA 11 27 p0 r10) (fun _ => mRt ()))))))))))))))))))))))
set_option maxRecDepth 100000 in
theorem s_X13_init {cx : CX} (p0 : (Option Nat)) : Sn cx m_X13_init eV 0 [(0, vA p0)] [] (f_X13_init p0) := by
  refine sn_aload_n (y := m_X13_init) (pc := 0) dX13_init_0 rfl ?_
  refine sn_objInit (y := m_X13_init) (pc := 1) oi_X13_3 oi_1 oi_2 dX13_init_1 rfl ⟨by decide, by decide⟩ ?_
  refine sn_aload_n (y := m_X13_init) (pc := 4) dX13_init_4 rfl ?_
  refine sn_iconst (y := m_X13_init) (pc := 5) dX13_init_5 kc_iconst_m1 ?_
  refine sn_putI (y := m_X13_init) (pc := 6) ca_11 rfl fk_X13_9 (Or.inl rfl) rfl dX13_init_6 ?_
  refine sn_aload_n (y := m_X13_init) (pc := 9) dX13_init_9 rfl ?_
  refine sn_sipush (y := m_X13_init) (pc := 10) dX13_init_10 kc_sipush_576 ?_
  refine sn_newarray (y := m_X13_init) (pc := 13) (t := 2) rfl (Or.inr (Or.inl rfl)) ac_long dX13_init_13 (fun r1 => ?_)
  refine sn_putA (y := m_X13_init) (pc := 15) ca_11 rfl fk_X13_13 (Or.inr ⟨rfl, rfl, rfl, fkm_X13_13⟩) rfl dX13_init_15 ?_
  refine sn_aload_n (y := m_X13_init) (pc := 18) dX13_init_18 rfl ?_
  refine sn_bipush (y := m_X13_init) (pc := 19) dX13_init_19 kc_bipush_12 ?_
  refine sn_newarray (y := m_X13_init) (pc := 21) (t := 2) rfl (Or.inr (Or.inl rfl)) ac_long dX13_init_21 (fun r2 => ?_)
  refine sn_putA (y := m_X13_init) (pc := 23) ca_11 rfl fk_X13_17 (Or.inr ⟨rfl, rfl, rfl, fkm_X13_17⟩) rfl dX13_init_23 ?_
  refine sn_aload_n (y := m_X13_init) (pc := 26) dX13_init_26 rfl ?_
  refine sn_sipush (y := m_X13_init) (pc := 27) dX13_init_27 kc_sipush_900 ?_
  refine sn_newarray (y := m_X13_init) (pc := 30) (t := 3) rfl (Or.inr (Or.inr rfl)) ac_byte dX13_init_30 (fun r3 => ?_)
  refine sn_putA (y := m_X13_init) (pc := 32) ca_11 rfl fk_X13_20 (Or.inr ⟨rfl, rfl, rfl, fkm_X13_20⟩) rfl dX13_init_32 ?_
  refine sn_aload_n (y := m_X13_init) (pc := 35) dX13_init_35 rfl ?_
  refine sn_sipush (y := m_X13_init) (pc := 36) dX13_init_36 kc_sipush_199 ?_
  refine sn_newarray (y := m_X13_init) (pc := 39) (t := 1) rfl (Or.inl rfl) ac_int dX13_init_39 (fun r4 => ?_)
  refine sn_putA (y := m_X13_init) (pc := 41) ca_11 rfl fk_X13_24 (Or.inr ⟨rfl, rfl, rfl, fkm_X13_24⟩) rfl dX13_init_41 ?_
  refine sn_aload_n (y := m_X13_init) (pc := 44) dX13_init_44 rfl ?_
  refine sn_sipush (y := m_X13_init) (pc := 45) dX13_init_45 kc_sipush_199 ?_
  refine sn_newarray (y := m_X13_init) (pc := 48) (t := 1) rfl (Or.inl rfl) ac_int dX13_init_48 (fun r5 => ?_)
  refine sn_putA (y := m_X13_init) (pc := 50) ca_11 rfl fk_X13_28 (Or.inr ⟨rfl, rfl, rfl, fkm_X13_28⟩) rfl dX13_init_50 ?_
  refine sn_aload_n (y := m_X13_init) (pc := 53) dX13_init_53 rfl ?_
  refine sn_sipush (y := m_X13_init) (pc := 54) dX13_init_54 kc_sipush_199 ?_
  refine sn_newarray (y := m_X13_init) (pc := 57) (t := 1) rfl (Or.inl rfl) ac_int dX13_init_57 (fun r6 => ?_)
  refine sn_putA (y := m_X13_init) (pc := 59) ca_11 rfl fk_X13_31 (Or.inr ⟨rfl, rfl, rfl, fkm_X13_31⟩) rfl dX13_init_59 ?_
  refine sn_aload_n (y := m_X13_init) (pc := 62) dX13_init_62 rfl ?_
  refine sn_bipush (y := m_X13_init) (pc := 63) dX13_init_63 kc_bipush_49 ?_
  refine sn_newarray (y := m_X13_init) (pc := 65) (t := 2) rfl (Or.inr (Or.inl rfl)) ac_long dX13_init_65 (fun r7 => ?_)
  refine sn_putA (y := m_X13_init) (pc := 67) ca_11 rfl fk_X13_34 (Or.inr ⟨rfl, rfl, rfl, fkm_X13_34⟩) rfl dX13_init_67 ?_
  refine sn_aload_n (y := m_X13_init) (pc := 70) dX13_init_70 rfl ?_
  refine sn_sipush (y := m_X13_init) (pc := 71) dX13_init_71 kc_sipush_980 ?_
  refine sn_newarray (y := m_X13_init) (pc := 74) (t := 2) rfl (Or.inr (Or.inl rfl)) ac_long dX13_init_74 (fun r8 => ?_)
  refine sn_putA (y := m_X13_init) (pc := 76) ca_11 rfl fk_X13_37 (Or.inr ⟨rfl, rfl, rfl, fkm_X13_37⟩) rfl dX13_init_76 ?_
  refine sn_aload_n (y := m_X13_init) (pc := 79) dX13_init_79 rfl ?_
  refine sn_sipush (y := m_X13_init) (pc := 80) dX13_init_80 kc_sipush_980 ?_
  refine sn_newarray (y := m_X13_init) (pc := 83) (t := 2) rfl (Or.inr (Or.inl rfl)) ac_long dX13_init_83 (fun r9 => ?_)
  refine sn_putA (y := m_X13_init) (pc := 85) ca_11 rfl fk_X13_40 (Or.inr ⟨rfl, rfl, rfl, fkm_X13_40⟩) rfl dX13_init_85 ?_
  refine sn_aload_n (y := m_X13_init) (pc := 88) dX13_init_88 rfl ?_
  refine sn_sipush (y := m_X13_init) (pc := 89) dX13_init_89 kc_sipush_196 ?_
  refine sn_newarray (y := m_X13_init) (pc := 92) (t := 2) rfl (Or.inr (Or.inl rfl)) ac_long dX13_init_92 (fun r10 => ?_)
  refine sn_putA (y := m_X13_init) (pc := 94) ca_11 rfl fk_X13_43 (Or.inr ⟨rfl, rfl, rfl, fkm_X13_43⟩) rfl dX13_init_94 ?_
  exact sn_return rfl dX13_init_97
set_option maxRecDepth 100000 in
theorem c_X13_init (g : Gl) (p0 : (Option Nat)) : Cn g m_X13_init eV [vA p0] (mCk 11 p0 (f_X13_init p0)) := cn_of_sn (by decide +kernel) rfl (fun _ => rfl) rfl (fun _ _ => sn_ck (s_X13_init p0))
/-! X13_thrown -/
def f_X13_thrown (p0 : (Option Nat)) : Mo Int32 :=
  mBd (mGetI 11 0 p0) (fun r1 => mRt r1)
set_option maxRecDepth 100000 in
theorem s_X13_thrown {cx : CX} (p0 : (Option Nat)) : Sn cx m_X13_thrown eI 0 [(0, vA p0)] [] (f_X13_thrown p0) := by
  refine sn_aload_n (y := m_X13_thrown) (pc := 0) dX13_thrown_0 rfl ?_
  refine sn_getI (y := m_X13_thrown) (pc := 1) ca_11 rfl fk_X13_46 (fun _ _ _ => rfl) dX13_thrown_1 (fun r1 => ?_)
  exact sn_ireturn rfl dX13_thrown_4
set_option maxRecDepth 100000 in
theorem c_X13_thrown (g : Gl) (p0 : (Option Nat)) : Cn g m_X13_thrown eI [vA p0] (mCk 11 p0 (f_X13_thrown p0)) := cn_of_sn (by decide +kernel) rfl (fun r => ⟨r, rfl⟩) rfl (fun _ _ => sn_ck (s_X13_thrown p0))
/-! X13_refused -/
def f_X13_refused (p0 : (Option Nat)) (p1 : Int32) : Mo Int32 :=
  mBd (mPutI 11 1 p0 p1) (fun _ => mBd (mPutI 11 2 p0 (-1 : Int32)) (fun _ => mRt (-1 : Int32)))
set_option maxRecDepth 100000 in
theorem s_X13_refused {cx : CX} (p0 : (Option Nat)) (p1 : Int32) : Sn cx m_X13_refused eI 0 [(0, vA p0), (1, vI p1)] [] (f_X13_refused p0 p1) := by
  refine sn_aload_n (y := m_X13_refused) (pc := 0) dX13_refused_0 rfl ?_
  refine sn_iload_n (y := m_X13_refused) (pc := 1) dX13_refused_1 rfl ?_
  refine sn_putI (y := m_X13_refused) (pc := 2) ca_11 rfl fk_X13_49 (Or.inl rfl) rfl dX13_refused_2 ?_
  refine sn_aload_n (y := m_X13_refused) (pc := 5) dX13_refused_5 rfl ?_
  refine sn_iconst (y := m_X13_refused) (pc := 6) dX13_refused_6 kc_iconst_m1 ?_
  refine sn_putI (y := m_X13_refused) (pc := 7) ca_11 rfl fk_X13_9 (Or.inl rfl) rfl dX13_refused_7 ?_
  refine sn_iconst (y := m_X13_refused) (pc := 10) dX13_refused_10 kc_iconst_m1 ?_
  exact sn_ireturn rfl dX13_refused_11
set_option maxRecDepth 100000 in
theorem c_X13_refused (g : Gl) (p0 : (Option Nat)) (p1 : Int32) : Cn g m_X13_refused eI [vA p0, vI p1] (mCk 11 p0 (f_X13_refused p0 p1)) := cn_of_sn (by decide +kernel) rfl (fun r => ⟨r, rfl⟩) rfl (fun _ _ => sn_ck (s_X13_refused p0 p1))
/-! X13_refusedBy -/
def f_X13_refusedBy (p0 : (Option Nat)) (p1 : Int32) (p2 : Int32) : Mo Int32 :=
  mBd (mCk 11 p0 (f_X13_refused p0 p1)) (fun r1 => mRt p2)
set_option maxRecDepth 100000 in
theorem s_X13_refusedBy {cx : CX} (p0 : (Option Nat)) (p1 : Int32) (p2 : Int32) : Sn cx m_X13_refusedBy eI 0 [(0, vA p0), (1, vI p1), (2, vI p2)] [] (f_X13_refusedBy p0 p1 p2) := by
  refine sn_aload_n (y := m_X13_refusedBy) (pc := 0) dX13_refusedBy_0 rfl ?_
  refine sn_iload_n (y := m_X13_refusedBy) (pc := 1) dX13_refusedBy_1 rfl ?_
  refine sn_invV (y := m_X13_refusedBy) (pc := 2) ca_11 (av := [vI p1]) (o := p0) (st := []) dX13_refusedBy_2 lk_X13_52 im_X13_refused se_X13_refused rfl rfl rfl rfl ⟨by decide, by decide⟩ (c_X13_refused cx.1 p0 p1) (fun r1 => ?_)
  refine sn_pop (y := m_X13_refusedBy) (pc := 5) rfl dX13_refusedBy_5 ?_
  refine sn_iload_n (y := m_X13_refusedBy) (pc := 6) dX13_refusedBy_6 rfl ?_
  exact sn_ireturn rfl dX13_refusedBy_7
set_option maxRecDepth 100000 in
theorem c_X13_refusedBy (g : Gl) (p0 : (Option Nat)) (p1 : Int32) (p2 : Int32) : Cn g m_X13_refusedBy eI [vA p0, vI p1, vI p2] (mCk 11 p0 (f_X13_refusedBy p0 p1 p2)) := cn_of_sn (by decide +kernel) rfl (fun r => ⟨r, rfl⟩) rfl (fun _ _ => sn_ck (s_X13_refusedBy p0 p1 p2))
/-! X13_denied -/
def f_X13_denied (p0 : (Option Nat)) (p1 : Int32) : Mo Int32 :=
  mBd (mCk 11 p0 (f_X13_refused p0 p1)) (fun r1 => mRt (0 : Int32))
set_option maxRecDepth 100000 in
theorem s_X13_denied {cx : CX} (p0 : (Option Nat)) (p1 : Int32) : Sn cx m_X13_denied eI 0 [(0, vA p0), (1, vI p1)] [] (f_X13_denied p0 p1) := by
  refine sn_aload_n (y := m_X13_denied) (pc := 0) dX13_denied_0 rfl ?_
  refine sn_iload_n (y := m_X13_denied) (pc := 1) dX13_denied_1 rfl ?_
  refine sn_invV (y := m_X13_denied) (pc := 2) ca_11 (av := [vI p1]) (o := p0) (st := []) dX13_denied_2 lk_X13_52 im_X13_refused se_X13_refused rfl rfl rfl rfl ⟨by decide, by decide⟩ (c_X13_refused cx.1 p0 p1) (fun r1 => ?_)
  refine sn_pop (y := m_X13_denied) (pc := 5) rfl dX13_denied_5 ?_
  refine sn_iconst (y := m_X13_denied) (pc := 6) dX13_denied_6 kc_iconst_0 ?_
  exact sn_zreturnC (by decide) rfl dX13_denied_7
set_option maxRecDepth 100000 in
theorem c_X13_denied (g : Gl) (p0 : (Option Nat)) (p1 : Int32) : Cn g m_X13_denied eI [vA p0, vI p1] (mCk 11 p0 (f_X13_denied p0 p1)) := cn_of_sn (by decide +kernel) rfl (fun r => ⟨r, rfl⟩) rfl (fun _ _ => sn_ck (s_X13_denied p0 p1))
/-! X13_good -/
def f_X13_good (p0 : (Option Nat)) (p1 : Int32) : Mo Int32 :=
  mBd (mPutI 11 1 p0 (0 : Int32)) (fun _ => mBd (mPutI 11 2 p0 (-1 : Int32)) (fun _ => mRt p1))
set_option maxRecDepth 100000 in
theorem s_X13_good {cx : CX} (p0 : (Option Nat)) (p1 : Int32) : Sn cx m_X13_good eI 0 [(0, vA p0), (1, vI p1)] [] (f_X13_good p0 p1) := by
  refine sn_aload_n (y := m_X13_good) (pc := 0) dX13_good_0 rfl ?_
  refine sn_iconst (y := m_X13_good) (pc := 1) dX13_good_1 kc_iconst_0 ?_
  refine sn_putI (y := m_X13_good) (pc := 2) ca_11 rfl fk_X13_49 (Or.inl rfl) rfl dX13_good_2 ?_
  refine sn_aload_n (y := m_X13_good) (pc := 5) dX13_good_5 rfl ?_
  refine sn_iconst (y := m_X13_good) (pc := 6) dX13_good_6 kc_iconst_m1 ?_
  refine sn_putI (y := m_X13_good) (pc := 7) ca_11 rfl fk_X13_9 (Or.inl rfl) rfl dX13_good_7 ?_
  refine sn_iload_n (y := m_X13_good) (pc := 10) dX13_good_10 rfl ?_
  exact sn_ireturn rfl dX13_good_11
set_option maxRecDepth 100000 in
theorem c_X13_good (g : Gl) (p0 : (Option Nat)) (p1 : Int32) : Cn g m_X13_good eI [vA p0, vI p1] (mCk 11 p0 (f_X13_good p0 p1)) := cn_of_sn (by decide +kernel) rfl (fun r => ⟨r, rfl⟩) rfl (fun _ _ => sn_ck (s_X13_good p0 p1))
/-! X13_goodLong -/
def f_X13_goodLong (p0 : (Option Nat)) (p1 : Int64) : Mo Int64 :=
  mBd (mCk 11 p0 (f_X13_good p0 (0 : Int32))) (fun r1 => mRt p1)
set_option maxRecDepth 100000 in
theorem s_X13_goodLong {cx : CX} (p0 : (Option Nat)) (p1 : Int64) : Sn cx m_X13_goodLong eJ 0 [(0, vA p0), (1, vJ p1)] [] (f_X13_goodLong p0 p1) := by
  refine sn_aload_n (y := m_X13_goodLong) (pc := 0) dX13_goodLong_0 rfl ?_
  refine sn_iconst (y := m_X13_goodLong) (pc := 1) dX13_goodLong_1 kc_iconst_0 ?_
  refine sn_invV (y := m_X13_goodLong) (pc := 2) ca_11 (av := [vI (0 : Int32)]) (o := p0) (st := []) dX13_goodLong_2 lk_X13_56 im_X13_good se_X13_good rfl rfl rfl rfl ⟨by decide, by decide⟩ (c_X13_good cx.1 p0 (0 : Int32)) (fun r1 => ?_)
  refine sn_pop (y := m_X13_goodLong) (pc := 5) rfl dX13_goodLong_5 ?_
  refine sn_lload_n (y := m_X13_goodLong) (pc := 6) dX13_goodLong_6 rfl ?_
  exact sn_lreturn rfl dX13_goodLong_7
set_option maxRecDepth 100000 in
theorem c_X13_goodLong (g : Gl) (p0 : (Option Nat)) (p1 : Int64) : Cn g m_X13_goodLong eJ [vA p0, vJ p1] (mCk 11 p0 (f_X13_goodLong p0 p1)) := cn_of_sn (by decide +kernel) rfl (fun r => ⟨r, rfl⟩) rfl (fun _ _ => sn_ck (s_X13_goodLong p0 p1))
/-! X13_granted -/
def f_X13_granted (p0 : (Option Nat)) : Mo Int32 :=
  mBd (mCk 11 p0 (f_X13_good p0 (0 : Int32))) (fun r1 => mRt (1 : Int32))
set_option maxRecDepth 100000 in
theorem s_X13_granted {cx : CX} (p0 : (Option Nat)) : Sn cx m_X13_granted eI 0 [(0, vA p0)] [] (f_X13_granted p0) := by
  refine sn_aload_n (y := m_X13_granted) (pc := 0) dX13_granted_0 rfl ?_
  refine sn_iconst (y := m_X13_granted) (pc := 1) dX13_granted_1 kc_iconst_0 ?_
  refine sn_invV (y := m_X13_granted) (pc := 2) ca_11 (av := [vI (0 : Int32)]) (o := p0) (st := []) dX13_granted_2 lk_X13_56 im_X13_good se_X13_good rfl rfl rfl rfl ⟨by decide, by decide⟩ (c_X13_good cx.1 p0 (0 : Int32)) (fun r1 => ?_)
  refine sn_pop (y := m_X13_granted) (pc := 5) rfl dX13_granted_5 ?_
  refine sn_iconst (y := m_X13_granted) (pc := 6) dX13_granted_6 kc_iconst_1 ?_
  exact sn_zreturnC (by decide) rfl dX13_granted_7
set_option maxRecDepth 100000 in
theorem c_X13_granted (g : Gl) (p0 : (Option Nat)) : Cn g m_X13_granted eI [vA p0] (mCk 11 p0 (f_X13_granted p0)) := cn_of_sn (by decide +kernel) rfl (fun r => ⟨r, rfl⟩) rfl (fun _ _ => sn_ck (s_X13_granted p0))
/-! X13_isPrime -/
def f_X13_isPrime_b2 (x0 : Int32) (k2 : Int32 → Mo Int32) (x1 : Int32) : Mo Int32 :=
  (if (x1 * x1) > x0 then (if x0 ≤ (1 : Int32) then mRt (0 : Int32) else mRt (1 : Int32)) else mRq (¬ x1 = 0) ((if ¬ (irem x0 x1) = 0 then k2 (x1 + 1) else mRt (0 : Int32))))
def f_X13_isPrime_l2 (x0 : Int32) : Int32 → Mo Int32 := lq1 (f_X13_isPrime_b2 x0) fuel
set_option maxRecDepth 100000 in
theorem s_X13_isPrime_b2 {cx : CX} (x0 : Int32) {k2 : Int32 → Mo Int32} (hk2 : ∀ (z1 : Int32), Sn cx m_X13_isPrime eI 2 [(1, vI z1), (0, vI x0)] [] (k2 z1)) (x1 : Int32) : Sn cx m_X13_isPrime eI 2 [(1, vI x1), (0, vI x0)] [] (f_X13_isPrime_b2 x0 k2 x1) := by
  refine sn_iload_n (y := m_X13_isPrime) (pc := 2) dX13_isPrime_2 rfl ?_
  refine sn_iload_n (y := m_X13_isPrime) (pc := 3) dX13_isPrime_3 rfl ?_
  refine sn_imul (y := m_X13_isPrime) (pc := 4) dX13_isPrime_4 ?_
  refine sn_iload_n (y := m_X13_isPrime) (pc := 5) dX13_isPrime_5 rfl ?_
  refine sn_icmp_gt (y := m_X13_isPrime) (pc := 6) (tgt := 23) dX13_isPrime_6 (by decide) (fun _ => ?_) (fun _ => ?_)
  · refine sn_iload_n (y := m_X13_isPrime) (pc := 23) dX13_isPrime_23 rfl ?_
    refine sn_iconst (y := m_X13_isPrime) (pc := 24) dX13_isPrime_24 kc_iconst_1 ?_
    refine sn_icmp_le (y := m_X13_isPrime) (pc := 25) (tgt := 32) dX13_isPrime_25 (by decide) (fun _ => ?_) (fun _ => ?_)
    · refine sn_iconst (y := m_X13_isPrime) (pc := 32) dX13_isPrime_32 kc_iconst_0 ?_
      exact sn_zreturnC (by decide) rfl dX13_isPrime_33
    refine sn_iconst (y := m_X13_isPrime) (pc := 28) dX13_isPrime_28 kc_iconst_1 ?_
    refine sn_goto (y := m_X13_isPrime) (pc := 29) (tgt := 33) dX13_isPrime_29 (by decide) ?_
    exact sn_zreturnC (by decide) rfl dX13_isPrime_33
  refine sn_iload_n (y := m_X13_isPrime) (pc := 9) dX13_isPrime_9 rfl ?_
  refine sn_iload_n (y := m_X13_isPrime) (pc := 10) dX13_isPrime_10 rfl ?_
  refine sn_irem (y := m_X13_isPrime) (pc := 11) dX13_isPrime_11 ?_
  refine sn_if_ne (y := m_X13_isPrime) (pc := 12) (tgt := 17) dX13_isPrime_12 (by decide) (fun _ => ?_) (fun _ => ?_)
  · refine sn_iinc (y := m_X13_isPrime) (pc := 17) (v := x1 + 1) dX13_isPrime_17 rfl (by rfl) rfl ?_
    refine sn_goto (y := m_X13_isPrime) (pc := 20) (tgt := 2) dX13_isPrime_20 (by decide) ?_
    exact sn_sub rfl (hk2 (x1 + 1))
  refine sn_iconst (y := m_X13_isPrime) (pc := 15) dX13_isPrime_15 kc_iconst_0 ?_
  exact sn_zreturnC (by decide) rfl dX13_isPrime_16
set_option maxRecDepth 100000 in
theorem s_X13_isPrime_l2 {cx : CX} (x0 : Int32) (x1 : Int32) : Sn cx m_X13_isPrime eI 2 [(1, vI x1), (0, vI x0)] [] (f_X13_isPrime_l2 x0 x1) :=
  sn_lq1 (L := fun x1 => [(1, vI x1), (0, vI x0)]) (fun k hk x1 => s_X13_isPrime_b2 x0 hk x1) fuel x1
def f_X13_isPrime (p0 : Int32) : Mo Int32 :=
  f_X13_isPrime_l2 p0 (2 : Int32)
set_option maxRecDepth 100000 in
theorem s_X13_isPrime {cx : CX} (p0 : Int32) : Sn cx m_X13_isPrime eI 0 [(0, vI p0)] [] (f_X13_isPrime p0) := by
  refine sn_iconst (y := m_X13_isPrime) (pc := 0) dX13_isPrime_0 kc_iconst_2 ?_
  refine sn_istore_n (y := m_X13_isPrime) (pc := 1) dX13_isPrime_1 rfl ?_
  exact sn_sub rfl (s_X13_isPrime_l2 p0 (2 : Int32))
set_option maxRecDepth 100000 in
theorem c_X13_isPrime (g : Gl) (p0 : Int32) : Cn g m_X13_isPrime eI [vI p0] (f_X13_isPrime p0) := cn_of_sn (by decide +kernel) rfl (fun r => ⟨r, rfl⟩) rfl (fun _ _ => s_X13_isPrime p0)
/-! X13_raised -/
def f_X13_raised_b5 (x0 : Int32) (x1 : Int32) (x2 : Int32) (k5 : Int32 → Int32 → Mo Int32) (x3 : Int32) (x4 : Int32) : Mo Int32 :=
  (if x4 ≥ x1 then mRt x3 else mRq (¬ x2 = 0) (mNm (irem (x3 * x0) x2) (fun n1 => k5 n1 (x4 + 1))))
def f_X13_raised_l5 (x0 : Int32) (x1 : Int32) (x2 : Int32) : Int32 → Int32 → Mo Int32 := lq2 (f_X13_raised_b5 x0 x1 x2) fuel
set_option maxRecDepth 100000 in
theorem s_X13_raised_b5 {cx : CX} (x0 : Int32) (x1 : Int32) (x2 : Int32) {k5 : Int32 → Int32 → Mo Int32} (hk5 : ∀ (z3 : Int32) (z4 : Int32), Sn cx m_X13_raised eI 5 [(3, vI z3), (4, vI z4), (0, vI x0), (1, vI x1), (2, vI x2)] [] (k5 z3 z4)) (x3 : Int32) (x4 : Int32) : Sn cx m_X13_raised eI 5 [(3, vI x3), (4, vI x4), (0, vI x0), (1, vI x1), (2, vI x2)] [] (f_X13_raised_b5 x0 x1 x2 k5 x3 x4) := by
  refine sn_iload (y := m_X13_raised) (pc := 5) dX13_raised_5 rfl ?_
  refine sn_iload_n (y := m_X13_raised) (pc := 7) dX13_raised_7 rfl ?_
  refine sn_icmp_ge (y := m_X13_raised) (pc := 8) (tgt := 23) dX13_raised_8 (by decide) (fun _ => ?_) (fun _ => ?_)
  · refine sn_iload_n (y := m_X13_raised) (pc := 23) dX13_raised_23 rfl ?_
    exact sn_ireturn rfl dX13_raised_24
  refine sn_iload_n (y := m_X13_raised) (pc := 11) dX13_raised_11 rfl ?_
  refine sn_iload_n (y := m_X13_raised) (pc := 12) dX13_raised_12 rfl ?_
  refine sn_imul (y := m_X13_raised) (pc := 13) dX13_raised_13 ?_
  refine sn_iload_n (y := m_X13_raised) (pc := 14) dX13_raised_14 rfl ?_
  refine sn_irem (y := m_X13_raised) (pc := 15) dX13_raised_15 ?_
  refine sn_istore_nM (y := m_X13_raised) (pc := 16) dX13_raised_16 rfl (fun n1 => ?_)
  refine sn_iinc (y := m_X13_raised) (pc := 17) (v := x4 + 1) dX13_raised_17 rfl (by rfl) rfl ?_
  refine sn_goto (y := m_X13_raised) (pc := 20) (tgt := 5) dX13_raised_20 (by decide) ?_
  exact sn_sub rfl (hk5 n1 (x4 + 1))
set_option maxRecDepth 100000 in
theorem s_X13_raised_l5 {cx : CX} (x0 : Int32) (x1 : Int32) (x2 : Int32) (x3 : Int32) (x4 : Int32) : Sn cx m_X13_raised eI 5 [(3, vI x3), (4, vI x4), (0, vI x0), (1, vI x1), (2, vI x2)] [] (f_X13_raised_l5 x0 x1 x2 x3 x4) :=
  sn_lq2 (L := fun x3 x4 => [(3, vI x3), (4, vI x4), (0, vI x0), (1, vI x1), (2, vI x2)]) (fun k hk x3 x4 => s_X13_raised_b5 x0 x1 x2 hk x3 x4) fuel x3 x4
def f_X13_raised (p0 : Int32) (p1 : Int32) (p2 : Int32) : Mo Int32 :=
  f_X13_raised_l5 p0 p1 p2 (1 : Int32) (0 : Int32)
set_option maxRecDepth 100000 in
theorem s_X13_raised {cx : CX} (p0 : Int32) (p1 : Int32) (p2 : Int32) : Sn cx m_X13_raised eI 0 [(0, vI p0), (1, vI p1), (2, vI p2)] [] (f_X13_raised p0 p1 p2) := by
  refine sn_iconst (y := m_X13_raised) (pc := 0) dX13_raised_0 kc_iconst_1 ?_
  refine sn_istore_n (y := m_X13_raised) (pc := 1) dX13_raised_1 rfl ?_
  refine sn_iconst (y := m_X13_raised) (pc := 2) dX13_raised_2 kc_iconst_0 ?_
  refine sn_istore (y := m_X13_raised) (pc := 3) dX13_raised_3 rfl ?_
  exact sn_sub rfl (s_X13_raised_l5 p0 p1 p2 (1 : Int32) (0 : Int32))
set_option maxRecDepth 100000 in
theorem c_X13_raised (g : Gl) (p0 : Int32) (p1 : Int32) (p2 : Int32) : Cn g m_X13_raised eI [vI p0, vI p1, vI p2] (f_X13_raised p0 p1 p2) := cn_of_sn (by decide +kernel) rfl (fun r => ⟨r, rfl⟩) rfl (fun _ _ => s_X13_raised p0 p1 p2)
/-! X13_settles -/
def f_X13_settles_b100 (x0 : (Option Nat)) (x1 : (Option Nat)) (x2 : Int32) (k100 : Int32 → Mo Unit) (x3 : Int32) : Mo Unit :=
  (if x3 ≥ (12 : Int32) then mRt () else mBd (mGetA 11 5 x0) (fun r4 => mBd (mGetI 10 3 x1) (fun r5 => (if x3 ≥ r5 then mBd (mStJ r4 ((x2 * (12 : Int32)) + x3) (0 : Int64)) (fun _ => k100 (x3 + 1)) else mBd (mGetA 11 6 x0) (fun r6 => mBd (mLdJ r6 x3) (fun r7 => mBd (mStJ r4 ((x2 * (12 : Int32)) + x3) r7) (fun _ => k100 (x3 + 1))))))))
def f_X13_settles_l100 (x0 : (Option Nat)) (x1 : (Option Nat)) (x2 : Int32) : Int32 → Mo Unit := lq1 (f_X13_settles_b100 x0 x1 x2) fuel
set_option maxRecDepth 100000 in
theorem s_X13_settles_b100 {cx : CX} (x0 : (Option Nat)) (x1 : (Option Nat)) (x2 : Int32) {k100 : Int32 → Mo Unit} (hk100 : ∀ (z3 : Int32), Sn cx m_X13_settles eV 100 [(3, vI z3), (0, vA x0), (1, vA x1), (2, vI x2)] [] (k100 z3)) (x3 : Int32) : Sn cx m_X13_settles eV 100 [(3, vI x3), (0, vA x0), (1, vA x1), (2, vI x2)] [] (f_X13_settles_b100 x0 x1 x2 k100 x3) := by
  refine sn_iload_n (y := m_X13_settles) (pc := 100) dX13_settles_100 rfl ?_
  refine sn_bipush (y := m_X13_settles) (pc := 101) dX13_settles_101 kc_bipush_12 ?_
  refine sn_icmp_ge (y := m_X13_settles) (pc := 103) (tgt := 141) dX13_settles_103 (by decide) (fun _ => ?_) (fun _ => ?_)
  · exact sn_return rfl dX13_settles_141
  refine sn_aload_n (y := m_X13_settles) (pc := 106) dX13_settles_106 rfl ?_
  refine sn_getA (y := m_X13_settles) (pc := 107) ca_11 rfl fk_X13_13 (fun _ _ _ => rfl) dX13_settles_107 (fun r4 => ?_)
  refine sn_iload_n (y := m_X13_settles) (pc := 110) dX13_settles_110 rfl ?_
  refine sn_bipush (y := m_X13_settles) (pc := 111) dX13_settles_111 kc_bipush_12 ?_
  refine sn_imul (y := m_X13_settles) (pc := 113) dX13_settles_113 ?_
  refine sn_iload_n (y := m_X13_settles) (pc := 114) dX13_settles_114 rfl ?_
  refine sn_iadd (y := m_X13_settles) (pc := 115) dX13_settles_115 ?_
  refine sn_iload_n (y := m_X13_settles) (pc := 116) dX13_settles_116 rfl ?_
  refine sn_aload_n (y := m_X13_settles) (pc := 117) dX13_settles_117 rfl ?_
  refine sn_getI (y := m_X13_settles) (pc := 118) ca_10 rfl fk_X13_64 (fun _ _ _ => rfl) dX13_settles_118 (fun r5 => ?_)
  refine sn_icmp_ge (y := m_X13_settles) (pc := 121) (tgt := 133) dX13_settles_121 (by decide) (fun _ => ?_) (fun _ => ?_)
  · refine sn_lconst (y := m_X13_settles) (pc := 133) dX13_settles_133 kc_lconst_0 ?_
    refine sn_lastore (y := m_X13_settles) (pc := 134) dX13_settles_134 ?_
    refine sn_iinc (y := m_X13_settles) (pc := 135) (v := x3 + 1) dX13_settles_135 rfl (by rfl) rfl ?_
    refine sn_goto (y := m_X13_settles) (pc := 138) (tgt := 100) dX13_settles_138 (by decide) ?_
    exact sn_sub rfl (hk100 (x3 + 1))
  refine sn_aload_n (y := m_X13_settles) (pc := 124) dX13_settles_124 rfl ?_
  refine sn_getA (y := m_X13_settles) (pc := 125) ca_11 rfl fk_X13_17 (fun _ _ _ => rfl) dX13_settles_125 (fun r6 => ?_)
  refine sn_iload_n (y := m_X13_settles) (pc := 128) dX13_settles_128 rfl ?_
  refine sn_laload (y := m_X13_settles) (pc := 129) dX13_settles_129 (fun r7 => ?_)
  refine sn_goto (y := m_X13_settles) (pc := 130) (tgt := 134) dX13_settles_130 (by decide) ?_
  refine sn_lastore (y := m_X13_settles) (pc := 134) dX13_settles_134 ?_
  refine sn_iinc (y := m_X13_settles) (pc := 135) (v := x3 + 1) dX13_settles_135 rfl (by rfl) rfl ?_
  refine sn_goto (y := m_X13_settles) (pc := 138) (tgt := 100) dX13_settles_138 (by decide) ?_
  exact sn_sub rfl (hk100 (x3 + 1))
set_option maxRecDepth 100000 in
theorem s_X13_settles_l100 {cx : CX} (x0 : (Option Nat)) (x1 : (Option Nat)) (x2 : Int32) (x3 : Int32) : Sn cx m_X13_settles eV 100 [(3, vI x3), (0, vA x0), (1, vA x1), (2, vI x2)] [] (f_X13_settles_l100 x0 x1 x2 x3) :=
  sn_lq1 (L := fun x3 => [(3, vI x3), (0, vA x0), (1, vA x1), (2, vI x2)]) (fun k hk x3 => s_X13_settles_b100 x0 x1 x2 hk x3) fuel x3
def f_X13_settles_b50 (k7 : Int32 → Mo Unit) (x0 : (Option Nat)) (x1 : (Option Nat)) (x2 : Int32) (x3 : Int32) (x6 : Int64) (k50 : Int32 → Mo Unit) (x8 : Int32) : Mo Unit :=
  mBd (mGetI 10 3 x1) (fun r14 => (if x8 > r14 then k7 (x3 + (-1)) else mBd (mGetA 11 6 x0) (fun r15 => mBd (mGetI 10 3 x1) (fun r16 => mBd (mLdJ r15 ((x3 - r16) + x8)) (fun r17 => mBd (mGetA 10 5 x1) (fun r18 => mBd (mLdJ r18 x8) (fun r19 => mBd (mStJ r15 ((x3 - r16) + x8) (r17 - (x6 * r19))) (fun _ => k50 (x8 + 1)))))))))
def f_X13_settles_l50 (k7 : Int32 → Mo Unit) (x0 : (Option Nat)) (x1 : (Option Nat)) (x2 : Int32) (x3 : Int32) (x6 : Int64) : Int32 → Mo Unit := lq1 (f_X13_settles_b50 k7 x0 x1 x2 x3 x6) fuel
set_option maxRecDepth 100000 in
theorem s_X13_settles_b50 {cx : CX} {k7 : Int32 → Mo Unit} (x0 : (Option Nat)) (x1 : (Option Nat)) (x2 : Int32) (x3 : Int32) (x6 : Int64) (hk7 : ∀ (z3 : Int32), Sn cx m_X13_settles eV 7 [(3, vI z3), (0, vA x0), (1, vA x1), (2, vI x2)] [] (k7 z3)) {k50 : Int32 → Mo Unit} (hk50 : ∀ (z8 : Int32), Sn cx m_X13_settles eV 50 [(8, vI z8), (0, vA x0), (1, vA x1), (2, vI x2), (3, vI x3), (6, vJ x6)] [] (k50 z8)) (x8 : Int32) : Sn cx m_X13_settles eV 50 [(8, vI x8), (0, vA x0), (1, vA x1), (2, vI x2), (3, vI x3), (6, vJ x6)] [] (f_X13_settles_b50 k7 x0 x1 x2 x3 x6 k50 x8) := by
  refine sn_iload (y := m_X13_settles) (pc := 50) dX13_settles_50 rfl ?_
  refine sn_aload_n (y := m_X13_settles) (pc := 52) dX13_settles_52 rfl ?_
  refine sn_getI (y := m_X13_settles) (pc := 53) ca_10 rfl fk_X13_64 (fun _ _ _ => rfl) dX13_settles_53 (fun r14 => ?_)
  refine sn_icmp_gt (y := m_X13_settles) (pc := 56) (tgt := 92) dX13_settles_56 (by decide) (fun _ => ?_) (fun _ => ?_)
  · refine sn_iinc (y := m_X13_settles) (pc := 92) (v := x3 + (-1)) dX13_settles_92 rfl (by rfl) rfl ?_
    refine sn_goto (y := m_X13_settles) (pc := 95) (tgt := 7) dX13_settles_95 (by decide) ?_
    exact sn_sub rfl (hk7 (x3 + (-1)))
  refine sn_aload_n (y := m_X13_settles) (pc := 59) dX13_settles_59 rfl ?_
  refine sn_getA (y := m_X13_settles) (pc := 60) ca_11 rfl fk_X13_17 (fun _ _ _ => rfl) dX13_settles_60 (fun r15 => ?_)
  refine sn_iload_n (y := m_X13_settles) (pc := 63) dX13_settles_63 rfl ?_
  refine sn_aload_n (y := m_X13_settles) (pc := 64) dX13_settles_64 rfl ?_
  refine sn_getI (y := m_X13_settles) (pc := 65) ca_10 rfl fk_X13_64 (fun _ _ _ => rfl) dX13_settles_65 (fun r16 => ?_)
  refine sn_isub (y := m_X13_settles) (pc := 68) dX13_settles_68 ?_
  refine sn_iload (y := m_X13_settles) (pc := 69) dX13_settles_69 rfl ?_
  refine sn_iadd (y := m_X13_settles) (pc := 71) dX13_settles_71 ?_
  refine sn_dup2 (y := m_X13_settles) (pc := 72) rfl rfl dX13_settles_72 ?_
  refine sn_laload (y := m_X13_settles) (pc := 73) dX13_settles_73 (fun r17 => ?_)
  refine sn_lload (y := m_X13_settles) (pc := 74) dX13_settles_74 rfl ?_
  refine sn_aload_n (y := m_X13_settles) (pc := 76) dX13_settles_76 rfl ?_
  refine sn_getA (y := m_X13_settles) (pc := 77) ca_10 rfl fk_X13_67 (fun _ _ _ => rfl) dX13_settles_77 (fun r18 => ?_)
  refine sn_iload (y := m_X13_settles) (pc := 80) dX13_settles_80 rfl ?_
  refine sn_laload (y := m_X13_settles) (pc := 82) dX13_settles_82 (fun r19 => ?_)
  refine sn_lmul (y := m_X13_settles) (pc := 83) dX13_settles_83 ?_
  refine sn_lsub (y := m_X13_settles) (pc := 84) dX13_settles_84 ?_
  refine sn_lastore (y := m_X13_settles) (pc := 85) dX13_settles_85 ?_
  refine sn_iinc (y := m_X13_settles) (pc := 86) (v := x8 + 1) dX13_settles_86 rfl (by rfl) rfl ?_
  refine sn_goto (y := m_X13_settles) (pc := 89) (tgt := 50) dX13_settles_89 (by decide) ?_
  exact sn_sub rfl (hk50 (x8 + 1))
set_option maxRecDepth 100000 in
theorem s_X13_settles_l50 {cx : CX} {k7 : Int32 → Mo Unit} (x0 : (Option Nat)) (x1 : (Option Nat)) (x2 : Int32) (x3 : Int32) (x6 : Int64) (hk7 : ∀ (z3 : Int32), Sn cx m_X13_settles eV 7 [(3, vI z3), (0, vA x0), (1, vA x1), (2, vI x2)] [] (k7 z3)) (x8 : Int32) : Sn cx m_X13_settles eV 50 [(8, vI x8), (0, vA x0), (1, vA x1), (2, vI x2), (3, vI x3), (6, vJ x6)] [] (f_X13_settles_l50 k7 x0 x1 x2 x3 x6 x8) :=
  sn_lq1 (L := fun x8 => [(8, vI x8), (0, vA x0), (1, vA x1), (2, vI x2), (3, vI x3), (6, vJ x6)]) (fun k hk x8 => s_X13_settles_b50 x0 x1 x2 x3 x6 hk7 hk x8) fuel x8
def f_X13_settles_b7 (x0 : (Option Nat)) (x1 : (Option Nat)) (x2 : Int32) (k7 : Int32 → Mo Unit) (x3 : Int32) : Mo Unit :=
  mBd (mGetI 10 3 x1) (fun r3 => (if x3 < r3 then f_X13_settles_l100 x0 x1 x2 (0 : Int32) else mBd (mGetA 11 6 x0) (fun r8 => mBd (mLdJ r8 x3) (fun r9 => (if ¬ r9 = (0 : Int64) then mBd (mGetA 10 5 x1) (fun r10 => mBd (mGetI 10 3 x1) (fun r11 => mBd (mLdJ r10 r11) (fun r12 => mNm (r9 * r12) (fun n13 => f_X13_settles_l50 k7 x0 x1 x2 x3 n13 (0 : Int32))))) else k7 (x3 + (-1)))))))
def f_X13_settles_l7 (x0 : (Option Nat)) (x1 : (Option Nat)) (x2 : Int32) : Int32 → Mo Unit := lq1 (f_X13_settles_b7 x0 x1 x2) fuel
set_option maxRecDepth 100000 in
theorem s_X13_settles_b7 {cx : CX} (x0 : (Option Nat)) (x1 : (Option Nat)) (x2 : Int32) {k7 : Int32 → Mo Unit} (hk7 : ∀ (z3 : Int32), Sn cx m_X13_settles eV 7 [(3, vI z3), (0, vA x0), (1, vA x1), (2, vI x2)] [] (k7 z3)) (x3 : Int32) : Sn cx m_X13_settles eV 7 [(3, vI x3), (0, vA x0), (1, vA x1), (2, vI x2)] [] (f_X13_settles_b7 x0 x1 x2 k7 x3) := by
  refine sn_iload_n (y := m_X13_settles) (pc := 7) dX13_settles_7 rfl ?_
  refine sn_aload_n (y := m_X13_settles) (pc := 8) dX13_settles_8 rfl ?_
  refine sn_getI (y := m_X13_settles) (pc := 9) ca_10 rfl fk_X13_64 (fun _ _ _ => rfl) dX13_settles_9 (fun r3 => ?_)
  refine sn_icmp_lt (y := m_X13_settles) (pc := 12) (tgt := 98) dX13_settles_12 (by decide) (fun _ => ?_) (fun _ => ?_)
  · refine sn_iconst (y := m_X13_settles) (pc := 98) dX13_settles_98 kc_iconst_0 ?_
    refine sn_istore_n (y := m_X13_settles) (pc := 99) dX13_settles_99 rfl ?_
    exact sn_sub rfl (s_X13_settles_l100 x0 x1 x2 (0 : Int32))
  refine sn_aload_n (y := m_X13_settles) (pc := 15) dX13_settles_15 rfl ?_
  refine sn_getA (y := m_X13_settles) (pc := 16) ca_11 rfl fk_X13_17 (fun _ _ _ => rfl) dX13_settles_16 (fun r8 => ?_)
  refine sn_iload_n (y := m_X13_settles) (pc := 19) dX13_settles_19 rfl ?_
  refine sn_laload (y := m_X13_settles) (pc := 20) dX13_settles_20 (fun r9 => ?_)
  refine sn_lstore (y := m_X13_settles) (pc := 21) dX13_settles_21 rfl ?_
  refine sn_lload (y := m_X13_settles) (pc := 23) dX13_settles_23 rfl ?_
  refine sn_lconst (y := m_X13_settles) (pc := 25) dX13_settles_25 kc_lconst_0 ?_
  refine sn_lc_ne (y := m_X13_settles) (pc := 26) (tgt := 33) dX13_settles_26 dX13_settles_27 (by decide) (fun _ => ?_) (fun _ => ?_)
  · refine sn_lload (y := m_X13_settles) (pc := 33) dX13_settles_33 rfl ?_
    refine sn_aload_n (y := m_X13_settles) (pc := 35) dX13_settles_35 rfl ?_
    refine sn_getA (y := m_X13_settles) (pc := 36) ca_10 rfl fk_X13_67 (fun _ _ _ => rfl) dX13_settles_36 (fun r10 => ?_)
    refine sn_aload_n (y := m_X13_settles) (pc := 39) dX13_settles_39 rfl ?_
    refine sn_getI (y := m_X13_settles) (pc := 40) ca_10 rfl fk_X13_64 (fun _ _ _ => rfl) dX13_settles_40 (fun r11 => ?_)
    refine sn_laload (y := m_X13_settles) (pc := 43) dX13_settles_43 (fun r12 => ?_)
    refine sn_lmul (y := m_X13_settles) (pc := 44) dX13_settles_44 ?_
    refine sn_lstoreM (y := m_X13_settles) (pc := 45) dX13_settles_45 rfl (fun n13 => ?_)
    refine sn_iconst (y := m_X13_settles) (pc := 47) dX13_settles_47 kc_iconst_0 ?_
    refine sn_istore (y := m_X13_settles) (pc := 48) dX13_settles_48 rfl ?_
    exact sn_sub rfl (s_X13_settles_l50 x0 x1 x2 x3 n13 hk7 (0 : Int32))
  refine sn_goto (y := m_X13_settles) (pc := 30) (tgt := 92) dX13_settles_30 (by decide) ?_
  refine sn_iinc (y := m_X13_settles) (pc := 92) (v := x3 + (-1)) dX13_settles_92 rfl (by rfl) rfl ?_
  refine sn_goto (y := m_X13_settles) (pc := 95) (tgt := 7) dX13_settles_95 (by decide) ?_
  exact sn_sub rfl (hk7 (x3 + (-1)))
set_option maxRecDepth 100000 in
theorem s_X13_settles_l7 {cx : CX} (x0 : (Option Nat)) (x1 : (Option Nat)) (x2 : Int32) (x3 : Int32) : Sn cx m_X13_settles eV 7 [(3, vI x3), (0, vA x0), (1, vA x1), (2, vI x2)] [] (f_X13_settles_l7 x0 x1 x2 x3) :=
  sn_lq1 (L := fun x3 => [(3, vI x3), (0, vA x0), (1, vA x1), (2, vI x2)]) (fun k hk x3 => s_X13_settles_b7 x0 x1 x2 hk x3) fuel x3
def f_X13_settles (p0 : (Option Nat)) (p1 : (Option Nat)) (p2 : Int32) : Mo Unit :=
  mBd (mGetI 10 1 p1) (fun r1 => mNm (r1 - (1 : Int32)) (fun n2 => f_X13_settles_l7 p0 p1 p2 n2))
set_option maxRecDepth 100000 in
theorem s_X13_settles {cx : CX} (p0 : (Option Nat)) (p1 : (Option Nat)) (p2 : Int32) : Sn cx m_X13_settles eV 0 [(0, vA p0), (1, vA p1), (2, vI p2)] [] (f_X13_settles p0 p1 p2) := by
  refine sn_aload_n (y := m_X13_settles) (pc := 0) dX13_settles_0 rfl ?_
  refine sn_getI (y := m_X13_settles) (pc := 1) ca_10 rfl fk_X13_59 (fun _ _ _ => rfl) dX13_settles_1 (fun r1 => ?_)
  refine sn_iconst (y := m_X13_settles) (pc := 4) dX13_settles_4 kc_iconst_1 ?_
  refine sn_isub (y := m_X13_settles) (pc := 5) dX13_settles_5 ?_
  refine sn_istore_nM (y := m_X13_settles) (pc := 6) dX13_settles_6 rfl (fun n2 => ?_)
  exact sn_sub rfl (s_X13_settles_l7 p0 p1 p2 n2)
set_option maxRecDepth 100000 in
theorem c_X13_settles (g : Gl) (p0 : (Option Nat)) (p1 : (Option Nat)) (p2 : Int32) : Cn g m_X13_settles eV [vA p0, vA p1, vI p2] (mCk 11 p0 (f_X13_settles p0 p1 p2)) := cn_of_sn (by decide +kernel) rfl (fun _ => rfl) rfl (fun _ _ => sn_ck (s_X13_settles p0 p1 p2))
/-! X13_clearWide -/
def f_X13_clearWide_b2 (x0 : (Option Nat)) (k2 : Int32 → Mo Unit) (x1 : Int32) : Mo Unit :=
  (if x1 ≥ (12 : Int32) then mRt () else mBd (mGetA 11 6 x0) (fun r1 => mBd (mStJ r1 x1 (0 : Int64)) (fun _ => k2 (x1 + 1))))
def f_X13_clearWide_l2 (x0 : (Option Nat)) : Int32 → Mo Unit := lq1 (f_X13_clearWide_b2 x0) fuel
set_option maxRecDepth 100000 in
theorem s_X13_clearWide_b2 {cx : CX} (x0 : (Option Nat)) {k2 : Int32 → Mo Unit} (hk2 : ∀ (z1 : Int32), Sn cx m_X13_clearWide eV 2 [(1, vI z1), (0, vA x0)] [] (k2 z1)) (x1 : Int32) : Sn cx m_X13_clearWide eV 2 [(1, vI x1), (0, vA x0)] [] (f_X13_clearWide_b2 x0 k2 x1) := by
  refine sn_iload_n (y := m_X13_clearWide) (pc := 2) dX13_clearWide_2 rfl ?_
  refine sn_bipush (y := m_X13_clearWide) (pc := 3) dX13_clearWide_3 kc_bipush_12 ?_
  refine sn_icmp_ge (y := m_X13_clearWide) (pc := 5) (tgt := 21) dX13_clearWide_5 (by decide) (fun _ => ?_) (fun _ => ?_)
  · exact sn_return rfl dX13_clearWide_21
  refine sn_aload_n (y := m_X13_clearWide) (pc := 8) dX13_clearWide_8 rfl ?_
  refine sn_getA (y := m_X13_clearWide) (pc := 9) ca_11 rfl fk_X13_17 (fun _ _ _ => rfl) dX13_clearWide_9 (fun r1 => ?_)
  refine sn_iload_n (y := m_X13_clearWide) (pc := 12) dX13_clearWide_12 rfl ?_
  refine sn_lconst (y := m_X13_clearWide) (pc := 13) dX13_clearWide_13 kc_lconst_0 ?_
  refine sn_lastore (y := m_X13_clearWide) (pc := 14) dX13_clearWide_14 ?_
  refine sn_iinc (y := m_X13_clearWide) (pc := 15) (v := x1 + 1) dX13_clearWide_15 rfl (by rfl) rfl ?_
  refine sn_goto (y := m_X13_clearWide) (pc := 18) (tgt := 2) dX13_clearWide_18 (by decide) ?_
  exact sn_sub rfl (hk2 (x1 + 1))
set_option maxRecDepth 100000 in
theorem s_X13_clearWide_l2 {cx : CX} (x0 : (Option Nat)) (x1 : Int32) : Sn cx m_X13_clearWide eV 2 [(1, vI x1), (0, vA x0)] [] (f_X13_clearWide_l2 x0 x1) :=
  sn_lq1 (L := fun x1 => [(1, vI x1), (0, vA x0)]) (fun k hk x1 => s_X13_clearWide_b2 x0 hk x1) fuel x1
def f_X13_clearWide (p0 : (Option Nat)) : Mo Unit :=
  f_X13_clearWide_l2 p0 (0 : Int32)
set_option maxRecDepth 100000 in
theorem s_X13_clearWide {cx : CX} (p0 : (Option Nat)) : Sn cx m_X13_clearWide eV 0 [(0, vA p0)] [] (f_X13_clearWide p0) := by
  refine sn_iconst (y := m_X13_clearWide) (pc := 0) dX13_clearWide_0 kc_iconst_0 ?_
  refine sn_istore_n (y := m_X13_clearWide) (pc := 1) dX13_clearWide_1 rfl ?_
  exact sn_sub rfl (s_X13_clearWide_l2 p0 (0 : Int32))
set_option maxRecDepth 100000 in
theorem c_X13_clearWide (g : Gl) (p0 : (Option Nat)) : Cn g m_X13_clearWide eV [vA p0] (mCk 11 p0 (f_X13_clearWide p0)) := cn_of_sn (by decide +kernel) rfl (fun _ => rfl) rfl (fun _ _ => sn_ck (s_X13_clearWide p0))
/-! X13_multiply -/
def f_X13_multiply_b19 (k7 : Int32 → Mo Unit) (x0 : (Option Nat)) (x1 : (Option Nat)) (x2 : Int32) (x3 : Int32) (x4 : Int32) (x5 : Int32) (k19 : Int32 → Mo Unit) (x6 : Int32) : Mo Unit :=
  mBd (mGetI 10 3 x1) (fun r2 => (if x6 ≥ r2 then k7 (x5 + 1) else mBd (mGetA 11 6 x0) (fun r3 => mBd (mGetI 10 1 x1) (fun r4 => mRq (¬ r4 = 0) (mBd (mLdJ r3 (irem (x5 + x6) r4)) (fun r5 => mBd (mGetA 11 5 x0) (fun r6 => mBd (mLdJ r6 ((x2 * (12 : Int32)) + x5)) (fun r7 => mBd (mGetA 11 5 x0) (fun r8 => mBd (mLdJ r8 ((x3 * (12 : Int32)) + x6)) (fun r9 => mBd (mStJ r3 (irem (x5 + x6) r4) (r5 + (r7 * r9))) (fun _ => k19 (x6 + 1))))))))))))
def f_X13_multiply_l19 (k7 : Int32 → Mo Unit) (x0 : (Option Nat)) (x1 : (Option Nat)) (x2 : Int32) (x3 : Int32) (x4 : Int32) (x5 : Int32) : Int32 → Mo Unit := lq1 (f_X13_multiply_b19 k7 x0 x1 x2 x3 x4 x5) fuel
set_option maxRecDepth 100000 in
theorem s_X13_multiply_b19 {cx : CX} {k7 : Int32 → Mo Unit} (x0 : (Option Nat)) (x1 : (Option Nat)) (x2 : Int32) (x3 : Int32) (x4 : Int32) (x5 : Int32) (hk7 : ∀ (z5 : Int32), Sn cx m_X13_multiply eV 7 [(5, vI z5), (0, vA x0), (1, vA x1), (2, vI x2), (3, vI x3), (4, vI x4)] [] (k7 z5)) {k19 : Int32 → Mo Unit} (hk19 : ∀ (z6 : Int32), Sn cx m_X13_multiply eV 19 [(6, vI z6), (0, vA x0), (1, vA x1), (2, vI x2), (3, vI x3), (4, vI x4), (5, vI x5)] [] (k19 z6)) (x6 : Int32) : Sn cx m_X13_multiply eV 19 [(6, vI x6), (0, vA x0), (1, vA x1), (2, vI x2), (3, vI x3), (4, vI x4), (5, vI x5)] [] (f_X13_multiply_b19 k7 x0 x1 x2 x3 x4 x5 k19 x6) := by
  refine sn_iload (y := m_X13_multiply) (pc := 19) dX13_multiply_19 rfl ?_
  refine sn_aload_n (y := m_X13_multiply) (pc := 21) dX13_multiply_21 rfl ?_
  refine sn_getI (y := m_X13_multiply) (pc := 22) ca_10 rfl fk_X13_64 (fun _ _ _ => rfl) dX13_multiply_22 (fun r2 => ?_)
  refine sn_icmp_ge (y := m_X13_multiply) (pc := 25) (tgt := 77) dX13_multiply_25 (by decide) (fun _ => ?_) (fun _ => ?_)
  · refine sn_iinc (y := m_X13_multiply) (pc := 77) (v := x5 + 1) dX13_multiply_77 rfl (by rfl) rfl ?_
    refine sn_goto (y := m_X13_multiply) (pc := 80) (tgt := 7) dX13_multiply_80 (by decide) ?_
    exact sn_sub rfl (hk7 (x5 + 1))
  refine sn_aload_n (y := m_X13_multiply) (pc := 28) dX13_multiply_28 rfl ?_
  refine sn_getA (y := m_X13_multiply) (pc := 29) ca_11 rfl fk_X13_17 (fun _ _ _ => rfl) dX13_multiply_29 (fun r3 => ?_)
  refine sn_iload (y := m_X13_multiply) (pc := 32) dX13_multiply_32 rfl ?_
  refine sn_iload (y := m_X13_multiply) (pc := 34) dX13_multiply_34 rfl ?_
  refine sn_iadd (y := m_X13_multiply) (pc := 36) dX13_multiply_36 ?_
  refine sn_aload_n (y := m_X13_multiply) (pc := 37) dX13_multiply_37 rfl ?_
  refine sn_getI (y := m_X13_multiply) (pc := 38) ca_10 rfl fk_X13_59 (fun _ _ _ => rfl) dX13_multiply_38 (fun r4 => ?_)
  refine sn_irem (y := m_X13_multiply) (pc := 41) dX13_multiply_41 ?_
  refine sn_dup2 (y := m_X13_multiply) (pc := 42) rfl rfl dX13_multiply_42 ?_
  refine sn_laload (y := m_X13_multiply) (pc := 43) dX13_multiply_43 (fun r5 => ?_)
  refine sn_aload_n (y := m_X13_multiply) (pc := 44) dX13_multiply_44 rfl ?_
  refine sn_getA (y := m_X13_multiply) (pc := 45) ca_11 rfl fk_X13_13 (fun _ _ _ => rfl) dX13_multiply_45 (fun r6 => ?_)
  refine sn_iload_n (y := m_X13_multiply) (pc := 48) dX13_multiply_48 rfl ?_
  refine sn_bipush (y := m_X13_multiply) (pc := 49) dX13_multiply_49 kc_bipush_12 ?_
  refine sn_imul (y := m_X13_multiply) (pc := 51) dX13_multiply_51 ?_
  refine sn_iload (y := m_X13_multiply) (pc := 52) dX13_multiply_52 rfl ?_
  refine sn_iadd (y := m_X13_multiply) (pc := 54) dX13_multiply_54 ?_
  refine sn_laload (y := m_X13_multiply) (pc := 55) dX13_multiply_55 (fun r7 => ?_)
  refine sn_aload_n (y := m_X13_multiply) (pc := 56) dX13_multiply_56 rfl ?_
  refine sn_getA (y := m_X13_multiply) (pc := 57) ca_11 rfl fk_X13_13 (fun _ _ _ => rfl) dX13_multiply_57 (fun r8 => ?_)
  refine sn_iload_n (y := m_X13_multiply) (pc := 60) dX13_multiply_60 rfl ?_
  refine sn_bipush (y := m_X13_multiply) (pc := 61) dX13_multiply_61 kc_bipush_12 ?_
  refine sn_imul (y := m_X13_multiply) (pc := 63) dX13_multiply_63 ?_
  refine sn_iload (y := m_X13_multiply) (pc := 64) dX13_multiply_64 rfl ?_
  refine sn_iadd (y := m_X13_multiply) (pc := 66) dX13_multiply_66 ?_
  refine sn_laload (y := m_X13_multiply) (pc := 67) dX13_multiply_67 (fun r9 => ?_)
  refine sn_lmul (y := m_X13_multiply) (pc := 68) dX13_multiply_68 ?_
  refine sn_ladd (y := m_X13_multiply) (pc := 69) dX13_multiply_69 ?_
  refine sn_lastore (y := m_X13_multiply) (pc := 70) dX13_multiply_70 ?_
  refine sn_iinc (y := m_X13_multiply) (pc := 71) (v := x6 + 1) dX13_multiply_71 rfl (by rfl) rfl ?_
  refine sn_goto (y := m_X13_multiply) (pc := 74) (tgt := 19) dX13_multiply_74 (by decide) ?_
  exact sn_sub rfl (hk19 (x6 + 1))
set_option maxRecDepth 100000 in
theorem s_X13_multiply_l19 {cx : CX} {k7 : Int32 → Mo Unit} (x0 : (Option Nat)) (x1 : (Option Nat)) (x2 : Int32) (x3 : Int32) (x4 : Int32) (x5 : Int32) (hk7 : ∀ (z5 : Int32), Sn cx m_X13_multiply eV 7 [(5, vI z5), (0, vA x0), (1, vA x1), (2, vI x2), (3, vI x3), (4, vI x4)] [] (k7 z5)) (x6 : Int32) : Sn cx m_X13_multiply eV 19 [(6, vI x6), (0, vA x0), (1, vA x1), (2, vI x2), (3, vI x3), (4, vI x4), (5, vI x5)] [] (f_X13_multiply_l19 k7 x0 x1 x2 x3 x4 x5 x6) :=
  sn_lq1 (L := fun x6 => [(6, vI x6), (0, vA x0), (1, vA x1), (2, vI x2), (3, vI x3), (4, vI x4), (5, vI x5)]) (fun k hk x6 => s_X13_multiply_b19 x0 x1 x2 x3 x4 x5 hk7 hk x6) fuel x6
def f_X13_multiply_b7 (x0 : (Option Nat)) (x1 : (Option Nat)) (x2 : Int32) (x3 : Int32) (x4 : Int32) (k7 : Int32 → Mo Unit) (x5 : Int32) : Mo Unit :=
  mBd (mGetI 10 3 x1) (fun r1 => (if x5 ≥ r1 then mBd (mCk 11 x0 (f_X13_settles x0 x1 x4)) (fun _ => mRt ()) else f_X13_multiply_l19 k7 x0 x1 x2 x3 x4 x5 (0 : Int32)))
def f_X13_multiply_l7 (x0 : (Option Nat)) (x1 : (Option Nat)) (x2 : Int32) (x3 : Int32) (x4 : Int32) : Int32 → Mo Unit := lq1 (f_X13_multiply_b7 x0 x1 x2 x3 x4) fuel
set_option maxRecDepth 100000 in
theorem s_X13_multiply_b7 {cx : CX} (x0 : (Option Nat)) (x1 : (Option Nat)) (x2 : Int32) (x3 : Int32) (x4 : Int32) {k7 : Int32 → Mo Unit} (hk7 : ∀ (z5 : Int32), Sn cx m_X13_multiply eV 7 [(5, vI z5), (0, vA x0), (1, vA x1), (2, vI x2), (3, vI x3), (4, vI x4)] [] (k7 z5)) (x5 : Int32) : Sn cx m_X13_multiply eV 7 [(5, vI x5), (0, vA x0), (1, vA x1), (2, vI x2), (3, vI x3), (4, vI x4)] [] (f_X13_multiply_b7 x0 x1 x2 x3 x4 k7 x5) := by
  refine sn_iload (y := m_X13_multiply) (pc := 7) dX13_multiply_7 rfl ?_
  refine sn_aload_n (y := m_X13_multiply) (pc := 9) dX13_multiply_9 rfl ?_
  refine sn_getI (y := m_X13_multiply) (pc := 10) ca_10 rfl fk_X13_64 (fun _ _ _ => rfl) dX13_multiply_10 (fun r1 => ?_)
  refine sn_icmp_ge (y := m_X13_multiply) (pc := 13) (tgt := 83) dX13_multiply_13 (by decide) (fun _ => ?_) (fun _ => ?_)
  · refine sn_aload_n (y := m_X13_multiply) (pc := 83) dX13_multiply_83 rfl ?_
    refine sn_aload_n (y := m_X13_multiply) (pc := 84) dX13_multiply_84 rfl ?_
    refine sn_iload (y := m_X13_multiply) (pc := 85) dX13_multiply_85 rfl ?_
    refine sn_invV (y := m_X13_multiply) (pc := 87) ca_11 (av := [vA x1, vI x4]) (o := x0) (st := []) dX13_multiply_87 lk_X13_73 im_X13_settles se_X13_settles rfl rfl rfl rfl ⟨by decide, by decide⟩ (c_X13_settles cx.1 x0 x1 x4) (fun _ => ?_)
    exact sn_return rfl dX13_multiply_90
  refine sn_iconst (y := m_X13_multiply) (pc := 16) dX13_multiply_16 kc_iconst_0 ?_
  refine sn_istore (y := m_X13_multiply) (pc := 17) dX13_multiply_17 rfl ?_
  exact sn_sub rfl (s_X13_multiply_l19 x0 x1 x2 x3 x4 x5 hk7 (0 : Int32))
set_option maxRecDepth 100000 in
theorem s_X13_multiply_l7 {cx : CX} (x0 : (Option Nat)) (x1 : (Option Nat)) (x2 : Int32) (x3 : Int32) (x4 : Int32) (x5 : Int32) : Sn cx m_X13_multiply eV 7 [(5, vI x5), (0, vA x0), (1, vA x1), (2, vI x2), (3, vI x3), (4, vI x4)] [] (f_X13_multiply_l7 x0 x1 x2 x3 x4 x5) :=
  sn_lq1 (L := fun x5 => [(5, vI x5), (0, vA x0), (1, vA x1), (2, vI x2), (3, vI x3), (4, vI x4)]) (fun k hk x5 => s_X13_multiply_b7 x0 x1 x2 x3 x4 hk x5) fuel x5
def f_X13_multiply (p0 : (Option Nat)) (p1 : (Option Nat)) (p2 : Int32) (p3 : Int32) (p4 : Int32) : Mo Unit :=
  mBd (mCk 11 p0 (f_X13_clearWide p0)) (fun _ => f_X13_multiply_l7 p0 p1 p2 p3 p4 (0 : Int32))
set_option maxRecDepth 100000 in
theorem s_X13_multiply {cx : CX} (p0 : (Option Nat)) (p1 : (Option Nat)) (p2 : Int32) (p3 : Int32) (p4 : Int32) : Sn cx m_X13_multiply eV 0 [(0, vA p0), (1, vA p1), (2, vI p2), (3, vI p3), (4, vI p4)] [] (f_X13_multiply p0 p1 p2 p3 p4) := by
  refine sn_aload_n (y := m_X13_multiply) (pc := 0) dX13_multiply_0 rfl ?_
  refine sn_invV (y := m_X13_multiply) (pc := 1) ca_11 (av := []) (o := p0) (st := []) dX13_multiply_1 lk_X13_70 im_X13_clearWide se_X13_clearWide rfl rfl rfl rfl ⟨by decide, by decide⟩ (c_X13_clearWide cx.1 p0) (fun _ => ?_)
  refine sn_iconst (y := m_X13_multiply) (pc := 4) dX13_multiply_4 kc_iconst_0 ?_
  refine sn_istore (y := m_X13_multiply) (pc := 5) dX13_multiply_5 rfl ?_
  exact sn_sub rfl (s_X13_multiply_l7 p0 p1 p2 p3 p4 (0 : Int32))
set_option maxRecDepth 100000 in
theorem c_X13_multiply (g : Gl) (p0 : (Option Nat)) (p1 : (Option Nat)) (p2 : Int32) (p3 : Int32) (p4 : Int32) : Cn g m_X13_multiply eV [vA p0, vA p1, vI p2, vI p3, vI p4] (mCk 11 p0 (f_X13_multiply p0 p1 p2 p3 p4)) := cn_of_sn (by decide +kernel) rfl (fun _ => rfl) rfl (fun _ _ => sn_ck (s_X13_multiply p0 p1 p2 p3 p4))
/-! X13_turned -/
def f_X13_turned_b7 (x0 : (Option Nat)) (x1 : (Option Nat)) (x2 : Int32) (x3 : Int32) (x4 : Int32) (k7 : Int32 → Mo Unit) (x5 : Int32) : Mo Unit :=
  mBd (mGetI 10 3 x1) (fun r1 => (if x5 ≥ r1 then mBd (mCk 11 x0 (f_X13_settles x0 x1 x4)) (fun _ => mRt ()) else mBd (mGetA 11 6 x0) (fun r2 => mBd (mGetI 10 1 x1) (fun r3 => mRq (¬ r3 = 0) (mBd (mLdJ r2 (irem (x5 * x3) r3)) (fun r4 => mBd (mGetA 11 5 x0) (fun r5 => mBd (mLdJ r5 ((x2 * (12 : Int32)) + x5)) (fun r6 => mBd (mStJ r2 (irem (x5 * x3) r3) (r4 + r6)) (fun _ => k7 (x5 + 1))))))))))
def f_X13_turned_l7 (x0 : (Option Nat)) (x1 : (Option Nat)) (x2 : Int32) (x3 : Int32) (x4 : Int32) : Int32 → Mo Unit := lq1 (f_X13_turned_b7 x0 x1 x2 x3 x4) fuel
set_option maxRecDepth 100000 in
theorem s_X13_turned_b7 {cx : CX} (x0 : (Option Nat)) (x1 : (Option Nat)) (x2 : Int32) (x3 : Int32) (x4 : Int32) {k7 : Int32 → Mo Unit} (hk7 : ∀ (z5 : Int32), Sn cx m_X13_turned eV 7 [(5, vI z5), (0, vA x0), (1, vA x1), (2, vI x2), (3, vI x3), (4, vI x4)] [] (k7 z5)) (x5 : Int32) : Sn cx m_X13_turned eV 7 [(5, vI x5), (0, vA x0), (1, vA x1), (2, vI x2), (3, vI x3), (4, vI x4)] [] (f_X13_turned_b7 x0 x1 x2 x3 x4 k7 x5) := by
  refine sn_iload (y := m_X13_turned) (pc := 7) dX13_turned_7 rfl ?_
  refine sn_aload_n (y := m_X13_turned) (pc := 9) dX13_turned_9 rfl ?_
  refine sn_getI (y := m_X13_turned) (pc := 10) ca_10 rfl fk_X13_64 (fun _ _ _ => rfl) dX13_turned_10 (fun r1 => ?_)
  refine sn_icmp_ge (y := m_X13_turned) (pc := 13) (tgt := 51) dX13_turned_13 (by decide) (fun _ => ?_) (fun _ => ?_)
  · refine sn_aload_n (y := m_X13_turned) (pc := 51) dX13_turned_51 rfl ?_
    refine sn_aload_n (y := m_X13_turned) (pc := 52) dX13_turned_52 rfl ?_
    refine sn_iload (y := m_X13_turned) (pc := 53) dX13_turned_53 rfl ?_
    refine sn_invV (y := m_X13_turned) (pc := 55) ca_11 (av := [vA x1, vI x4]) (o := x0) (st := []) dX13_turned_55 lk_X13_73 im_X13_settles se_X13_settles rfl rfl rfl rfl ⟨by decide, by decide⟩ (c_X13_settles cx.1 x0 x1 x4) (fun _ => ?_)
    exact sn_return rfl dX13_turned_58
  refine sn_aload_n (y := m_X13_turned) (pc := 16) dX13_turned_16 rfl ?_
  refine sn_getA (y := m_X13_turned) (pc := 17) ca_11 rfl fk_X13_17 (fun _ _ _ => rfl) dX13_turned_17 (fun r2 => ?_)
  refine sn_iload (y := m_X13_turned) (pc := 20) dX13_turned_20 rfl ?_
  refine sn_iload_n (y := m_X13_turned) (pc := 22) dX13_turned_22 rfl ?_
  refine sn_imul (y := m_X13_turned) (pc := 23) dX13_turned_23 ?_
  refine sn_aload_n (y := m_X13_turned) (pc := 24) dX13_turned_24 rfl ?_
  refine sn_getI (y := m_X13_turned) (pc := 25) ca_10 rfl fk_X13_59 (fun _ _ _ => rfl) dX13_turned_25 (fun r3 => ?_)
  refine sn_irem (y := m_X13_turned) (pc := 28) dX13_turned_28 ?_
  refine sn_dup2 (y := m_X13_turned) (pc := 29) rfl rfl dX13_turned_29 ?_
  refine sn_laload (y := m_X13_turned) (pc := 30) dX13_turned_30 (fun r4 => ?_)
  refine sn_aload_n (y := m_X13_turned) (pc := 31) dX13_turned_31 rfl ?_
  refine sn_getA (y := m_X13_turned) (pc := 32) ca_11 rfl fk_X13_13 (fun _ _ _ => rfl) dX13_turned_32 (fun r5 => ?_)
  refine sn_iload_n (y := m_X13_turned) (pc := 35) dX13_turned_35 rfl ?_
  refine sn_bipush (y := m_X13_turned) (pc := 36) dX13_turned_36 kc_bipush_12 ?_
  refine sn_imul (y := m_X13_turned) (pc := 38) dX13_turned_38 ?_
  refine sn_iload (y := m_X13_turned) (pc := 39) dX13_turned_39 rfl ?_
  refine sn_iadd (y := m_X13_turned) (pc := 41) dX13_turned_41 ?_
  refine sn_laload (y := m_X13_turned) (pc := 42) dX13_turned_42 (fun r6 => ?_)
  refine sn_ladd (y := m_X13_turned) (pc := 43) dX13_turned_43 ?_
  refine sn_lastore (y := m_X13_turned) (pc := 44) dX13_turned_44 ?_
  refine sn_iinc (y := m_X13_turned) (pc := 45) (v := x5 + 1) dX13_turned_45 rfl (by rfl) rfl ?_
  refine sn_goto (y := m_X13_turned) (pc := 48) (tgt := 7) dX13_turned_48 (by decide) ?_
  exact sn_sub rfl (hk7 (x5 + 1))
set_option maxRecDepth 100000 in
theorem s_X13_turned_l7 {cx : CX} (x0 : (Option Nat)) (x1 : (Option Nat)) (x2 : Int32) (x3 : Int32) (x4 : Int32) (x5 : Int32) : Sn cx m_X13_turned eV 7 [(5, vI x5), (0, vA x0), (1, vA x1), (2, vI x2), (3, vI x3), (4, vI x4)] [] (f_X13_turned_l7 x0 x1 x2 x3 x4 x5) :=
  sn_lq1 (L := fun x5 => [(5, vI x5), (0, vA x0), (1, vA x1), (2, vI x2), (3, vI x3), (4, vI x4)]) (fun k hk x5 => s_X13_turned_b7 x0 x1 x2 x3 x4 hk x5) fuel x5
def f_X13_turned (p0 : (Option Nat)) (p1 : (Option Nat)) (p2 : Int32) (p3 : Int32) (p4 : Int32) : Mo Unit :=
  mBd (mCk 11 p0 (f_X13_clearWide p0)) (fun _ => f_X13_turned_l7 p0 p1 p2 p3 p4 (0 : Int32))
set_option maxRecDepth 100000 in
theorem s_X13_turned {cx : CX} (p0 : (Option Nat)) (p1 : (Option Nat)) (p2 : Int32) (p3 : Int32) (p4 : Int32) : Sn cx m_X13_turned eV 0 [(0, vA p0), (1, vA p1), (2, vI p2), (3, vI p3), (4, vI p4)] [] (f_X13_turned p0 p1 p2 p3 p4) := by
  refine sn_aload_n (y := m_X13_turned) (pc := 0) dX13_turned_0 rfl ?_
  refine sn_invV (y := m_X13_turned) (pc := 1) ca_11 (av := []) (o := p0) (st := []) dX13_turned_1 lk_X13_70 im_X13_clearWide se_X13_clearWide rfl rfl rfl rfl ⟨by decide, by decide⟩ (c_X13_clearWide cx.1 p0) (fun _ => ?_)
  refine sn_iconst (y := m_X13_turned) (pc := 4) dX13_turned_4 kc_iconst_0 ?_
  refine sn_istore (y := m_X13_turned) (pc := 5) dX13_turned_5 rfl ?_
  exact sn_sub rfl (s_X13_turned_l7 p0 p1 p2 p3 p4 (0 : Int32))
set_option maxRecDepth 100000 in
theorem c_X13_turned (g : Gl) (p0 : (Option Nat)) (p1 : (Option Nat)) (p2 : Int32) (p3 : Int32) (p4 : Int32) : Cn g m_X13_turned eV [vA p0, vA p1, vI p2, vI p3, vI p4] (mCk 11 p0 (f_X13_turned p0 p1 p2 p3 p4)) := cn_of_sn (by decide +kernel) rfl (fun _ => rfl) rfl (fun _ _ => sn_ck (s_X13_turned p0 p1 p2 p3 p4))
/-! X13_wholeRow -/
def f_X13_wholeRow_b3 (x0 : (Option Nat)) (x1 : Int32) (x2 : Int64) (k3 : Int32 → Mo Unit) (x4 : Int32) : Mo Unit :=
  (if x4 ≥ (12 : Int32) then mRt () else mBd (mGetA 11 5 x0) (fun r1 => (if ¬ x4 = 0 then mBd (mStJ r1 ((x1 * (12 : Int32)) + x4) (0 : Int64)) (fun _ => k3 (x4 + 1)) else mBd (mStJ r1 ((x1 * (12 : Int32)) + x4) x2) (fun _ => k3 (x4 + 1)))))
def f_X13_wholeRow_l3 (x0 : (Option Nat)) (x1 : Int32) (x2 : Int64) : Int32 → Mo Unit := lq1 (f_X13_wholeRow_b3 x0 x1 x2) fuel
set_option maxRecDepth 100000 in
theorem s_X13_wholeRow_b3 {cx : CX} (x0 : (Option Nat)) (x1 : Int32) (x2 : Int64) {k3 : Int32 → Mo Unit} (hk3 : ∀ (z4 : Int32), Sn cx m_X13_wholeRow eV 3 [(4, vI z4), (0, vA x0), (1, vI x1), (2, vJ x2)] [] (k3 z4)) (x4 : Int32) : Sn cx m_X13_wholeRow eV 3 [(4, vI x4), (0, vA x0), (1, vI x1), (2, vJ x2)] [] (f_X13_wholeRow_b3 x0 x1 x2 k3 x4) := by
  refine sn_iload (y := m_X13_wholeRow) (pc := 3) dX13_wholeRow_3 rfl ?_
  refine sn_bipush (y := m_X13_wholeRow) (pc := 5) dX13_wholeRow_5 kc_bipush_12 ?_
  refine sn_icmp_ge (y := m_X13_wholeRow) (pc := 7) (tgt := 38) dX13_wholeRow_7 (by decide) (fun _ => ?_) (fun _ => ?_)
  · exact sn_return rfl dX13_wholeRow_38
  refine sn_aload_n (y := m_X13_wholeRow) (pc := 10) dX13_wholeRow_10 rfl ?_
  refine sn_getA (y := m_X13_wholeRow) (pc := 11) ca_11 rfl fk_X13_13 (fun _ _ _ => rfl) dX13_wholeRow_11 (fun r1 => ?_)
  refine sn_iload_n (y := m_X13_wholeRow) (pc := 14) dX13_wholeRow_14 rfl ?_
  refine sn_bipush (y := m_X13_wholeRow) (pc := 15) dX13_wholeRow_15 kc_bipush_12 ?_
  refine sn_imul (y := m_X13_wholeRow) (pc := 17) dX13_wholeRow_17 ?_
  refine sn_iload (y := m_X13_wholeRow) (pc := 18) dX13_wholeRow_18 rfl ?_
  refine sn_iadd (y := m_X13_wholeRow) (pc := 20) dX13_wholeRow_20 ?_
  refine sn_iload (y := m_X13_wholeRow) (pc := 21) dX13_wholeRow_21 rfl ?_
  refine sn_if_ne (y := m_X13_wholeRow) (pc := 23) (tgt := 30) dX13_wholeRow_23 (by decide) (fun _ => ?_) (fun _ => ?_)
  · refine sn_lconst (y := m_X13_wholeRow) (pc := 30) dX13_wholeRow_30 kc_lconst_0 ?_
    refine sn_lastore (y := m_X13_wholeRow) (pc := 31) dX13_wholeRow_31 ?_
    refine sn_iinc (y := m_X13_wholeRow) (pc := 32) (v := x4 + 1) dX13_wholeRow_32 rfl (by rfl) rfl ?_
    refine sn_goto (y := m_X13_wholeRow) (pc := 35) (tgt := 3) dX13_wholeRow_35 (by decide) ?_
    exact sn_sub rfl (hk3 (x4 + 1))
  refine sn_lload_n (y := m_X13_wholeRow) (pc := 26) dX13_wholeRow_26 rfl ?_
  refine sn_goto (y := m_X13_wholeRow) (pc := 27) (tgt := 31) dX13_wholeRow_27 (by decide) ?_
  refine sn_lastore (y := m_X13_wholeRow) (pc := 31) dX13_wholeRow_31 ?_
  refine sn_iinc (y := m_X13_wholeRow) (pc := 32) (v := x4 + 1) dX13_wholeRow_32 rfl (by rfl) rfl ?_
  refine sn_goto (y := m_X13_wholeRow) (pc := 35) (tgt := 3) dX13_wholeRow_35 (by decide) ?_
  exact sn_sub rfl (hk3 (x4 + 1))
set_option maxRecDepth 100000 in
theorem s_X13_wholeRow_l3 {cx : CX} (x0 : (Option Nat)) (x1 : Int32) (x2 : Int64) (x4 : Int32) : Sn cx m_X13_wholeRow eV 3 [(4, vI x4), (0, vA x0), (1, vI x1), (2, vJ x2)] [] (f_X13_wholeRow_l3 x0 x1 x2 x4) :=
  sn_lq1 (L := fun x4 => [(4, vI x4), (0, vA x0), (1, vI x1), (2, vJ x2)]) (fun k hk x4 => s_X13_wholeRow_b3 x0 x1 x2 hk x4) fuel x4
def f_X13_wholeRow (p0 : (Option Nat)) (p1 : Int32) (p2 : Int64) : Mo Unit :=
  f_X13_wholeRow_l3 p0 p1 p2 (0 : Int32)
set_option maxRecDepth 100000 in
theorem s_X13_wholeRow {cx : CX} (p0 : (Option Nat)) (p1 : Int32) (p2 : Int64) : Sn cx m_X13_wholeRow eV 0 [(0, vA p0), (1, vI p1), (2, vJ p2)] [] (f_X13_wholeRow p0 p1 p2) := by
  refine sn_iconst (y := m_X13_wholeRow) (pc := 0) dX13_wholeRow_0 kc_iconst_0 ?_
  refine sn_istore (y := m_X13_wholeRow) (pc := 1) dX13_wholeRow_1 rfl ?_
  exact sn_sub rfl (s_X13_wholeRow_l3 p0 p1 p2 (0 : Int32))
set_option maxRecDepth 100000 in
theorem c_X13_wholeRow (g : Gl) (p0 : (Option Nat)) (p1 : Int32) (p2 : Int64) : Cn g m_X13_wholeRow eV [vA p0, vI p1, vJ p2] (mCk 11 p0 (f_X13_wholeRow p0 p1 p2)) := cn_of_sn (by decide +kernel) rfl (fun _ => rfl) rfl (fun _ _ => sn_ck (s_X13_wholeRow p0 p1 p2))
/-! X13_added -/
def f_X13_added_b3 (x0 : (Option Nat)) (x1 : Int32) (x2 : Int32) (x3 : Int64) (k3 : Int32 → Mo Unit) (x5 : Int32) : Mo Unit :=
  (if x5 ≥ (12 : Int32) then mRt () else mBd (mGetA 11 5 x0) (fun r1 => mBd (mLdJ r1 ((x1 * (12 : Int32)) + x5)) (fun r2 => mBd (mGetA 11 5 x0) (fun r3 => mBd (mLdJ r3 ((x2 * (12 : Int32)) + x5)) (fun r4 => mBd (mStJ r1 ((x1 * (12 : Int32)) + x5) (r2 + (x3 * r4))) (fun _ => k3 (x5 + 1)))))))
def f_X13_added_l3 (x0 : (Option Nat)) (x1 : Int32) (x2 : Int32) (x3 : Int64) : Int32 → Mo Unit := lq1 (f_X13_added_b3 x0 x1 x2 x3) fuel
set_option maxRecDepth 100000 in
theorem s_X13_added_b3 {cx : CX} (x0 : (Option Nat)) (x1 : Int32) (x2 : Int32) (x3 : Int64) {k3 : Int32 → Mo Unit} (hk3 : ∀ (z5 : Int32), Sn cx m_X13_added eV 3 [(5, vI z5), (0, vA x0), (1, vI x1), (2, vI x2), (3, vJ x3)] [] (k3 z5)) (x5 : Int32) : Sn cx m_X13_added eV 3 [(5, vI x5), (0, vA x0), (1, vI x1), (2, vI x2), (3, vJ x3)] [] (f_X13_added_b3 x0 x1 x2 x3 k3 x5) := by
  refine sn_iload (y := m_X13_added) (pc := 3) dX13_added_3 rfl ?_
  refine sn_bipush (y := m_X13_added) (pc := 5) dX13_added_5 kc_bipush_12 ?_
  refine sn_icmp_ge (y := m_X13_added) (pc := 7) (tgt := 45) dX13_added_7 (by decide) (fun _ => ?_) (fun _ => ?_)
  · exact sn_return rfl dX13_added_45
  refine sn_aload_n (y := m_X13_added) (pc := 10) dX13_added_10 rfl ?_
  refine sn_getA (y := m_X13_added) (pc := 11) ca_11 rfl fk_X13_13 (fun _ _ _ => rfl) dX13_added_11 (fun r1 => ?_)
  refine sn_iload_n (y := m_X13_added) (pc := 14) dX13_added_14 rfl ?_
  refine sn_bipush (y := m_X13_added) (pc := 15) dX13_added_15 kc_bipush_12 ?_
  refine sn_imul (y := m_X13_added) (pc := 17) dX13_added_17 ?_
  refine sn_iload (y := m_X13_added) (pc := 18) dX13_added_18 rfl ?_
  refine sn_iadd (y := m_X13_added) (pc := 20) dX13_added_20 ?_
  refine sn_dup2 (y := m_X13_added) (pc := 21) rfl rfl dX13_added_21 ?_
  refine sn_laload (y := m_X13_added) (pc := 22) dX13_added_22 (fun r2 => ?_)
  refine sn_lload_n (y := m_X13_added) (pc := 23) dX13_added_23 rfl ?_
  refine sn_aload_n (y := m_X13_added) (pc := 24) dX13_added_24 rfl ?_
  refine sn_getA (y := m_X13_added) (pc := 25) ca_11 rfl fk_X13_13 (fun _ _ _ => rfl) dX13_added_25 (fun r3 => ?_)
  refine sn_iload_n (y := m_X13_added) (pc := 28) dX13_added_28 rfl ?_
  refine sn_bipush (y := m_X13_added) (pc := 29) dX13_added_29 kc_bipush_12 ?_
  refine sn_imul (y := m_X13_added) (pc := 31) dX13_added_31 ?_
  refine sn_iload (y := m_X13_added) (pc := 32) dX13_added_32 rfl ?_
  refine sn_iadd (y := m_X13_added) (pc := 34) dX13_added_34 ?_
  refine sn_laload (y := m_X13_added) (pc := 35) dX13_added_35 (fun r4 => ?_)
  refine sn_lmul (y := m_X13_added) (pc := 36) dX13_added_36 ?_
  refine sn_ladd (y := m_X13_added) (pc := 37) dX13_added_37 ?_
  refine sn_lastore (y := m_X13_added) (pc := 38) dX13_added_38 ?_
  refine sn_iinc (y := m_X13_added) (pc := 39) (v := x5 + 1) dX13_added_39 rfl (by rfl) rfl ?_
  refine sn_goto (y := m_X13_added) (pc := 42) (tgt := 3) dX13_added_42 (by decide) ?_
  exact sn_sub rfl (hk3 (x5 + 1))
set_option maxRecDepth 100000 in
theorem s_X13_added_l3 {cx : CX} (x0 : (Option Nat)) (x1 : Int32) (x2 : Int32) (x3 : Int64) (x5 : Int32) : Sn cx m_X13_added eV 3 [(5, vI x5), (0, vA x0), (1, vI x1), (2, vI x2), (3, vJ x3)] [] (f_X13_added_l3 x0 x1 x2 x3 x5) :=
  sn_lq1 (L := fun x5 => [(5, vI x5), (0, vA x0), (1, vI x1), (2, vI x2), (3, vJ x3)]) (fun k hk x5 => s_X13_added_b3 x0 x1 x2 x3 hk x5) fuel x5
def f_X13_added (p0 : (Option Nat)) (p1 : Int32) (p2 : Int32) (p3 : Int64) : Mo Unit :=
  f_X13_added_l3 p0 p1 p2 p3 (0 : Int32)
set_option maxRecDepth 100000 in
theorem s_X13_added {cx : CX} (p0 : (Option Nat)) (p1 : Int32) (p2 : Int32) (p3 : Int64) : Sn cx m_X13_added eV 0 [(0, vA p0), (1, vI p1), (2, vI p2), (3, vJ p3)] [] (f_X13_added p0 p1 p2 p3) := by
  refine sn_iconst (y := m_X13_added) (pc := 0) dX13_added_0 kc_iconst_0 ?_
  refine sn_istore (y := m_X13_added) (pc := 1) dX13_added_1 rfl ?_
  exact sn_sub rfl (s_X13_added_l3 p0 p1 p2 p3 (0 : Int32))
set_option maxRecDepth 100000 in
theorem c_X13_added (g : Gl) (p0 : (Option Nat)) (p1 : Int32) (p2 : Int32) (p3 : Int64) : Cn g m_X13_added eV [vA p0, vI p1, vI p2, vJ p3] (mCk 11 p0 (f_X13_added p0 p1 p2 p3)) := cn_of_sn (by decide +kernel) rfl (fun _ => rfl) rfl (fun _ _ => sn_ck (s_X13_added p0 p1 p2 p3))
/-! X13_isHuge -/
def f_X13_isHuge_b2 (x0 : (Option Nat)) (x1 : Int32) (k2 : Int32 → Mo Int32) (x2 : Int32) : Mo Int32 :=
  (if x2 ≥ (12 : Int32) then mRt (0 : Int32) else mBd (mGetA 11 5 x0) (fun r1 => mBd (mLdJ r1 ((x1 * (12 : Int32)) + x2)) (fun r2 => (if r2 > (100000000 : Int64) then mRt (1 : Int32) else mBd (mGetA 11 5 x0) (fun r3 => mBd (mLdJ r3 ((x1 * (12 : Int32)) + x2)) (fun r4 => (if r4 ≥ (-100000000 : Int64) then k2 (x2 + 1) else mRt (1 : Int32))))))))
def f_X13_isHuge_l2 (x0 : (Option Nat)) (x1 : Int32) : Int32 → Mo Int32 := lq1 (f_X13_isHuge_b2 x0 x1) fuel
set_option maxRecDepth 100000 in
theorem s_X13_isHuge_b2 {cx : CX} (x0 : (Option Nat)) (x1 : Int32) {k2 : Int32 → Mo Int32} (hk2 : ∀ (z2 : Int32), Sn cx m_X13_isHuge eI 2 [(2, vI z2), (0, vA x0), (1, vI x1)] [] (k2 z2)) (x2 : Int32) : Sn cx m_X13_isHuge eI 2 [(2, vI x2), (0, vA x0), (1, vI x1)] [] (f_X13_isHuge_b2 x0 x1 k2 x2) := by
  refine sn_iload_n (y := m_X13_isHuge) (pc := 2) dX13_isHuge_2 rfl ?_
  refine sn_bipush (y := m_X13_isHuge) (pc := 3) dX13_isHuge_3 kc_bipush_12 ?_
  refine sn_icmp_ge (y := m_X13_isHuge) (pc := 5) (tgt := 52) dX13_isHuge_5 (by decide) (fun _ => ?_) (fun _ => ?_)
  · refine sn_iconst (y := m_X13_isHuge) (pc := 52) dX13_isHuge_52 kc_iconst_0 ?_
    exact sn_zreturnC (by decide) rfl dX13_isHuge_53
  refine sn_aload_n (y := m_X13_isHuge) (pc := 8) dX13_isHuge_8 rfl ?_
  refine sn_getA (y := m_X13_isHuge) (pc := 9) ca_11 rfl fk_X13_13 (fun _ _ _ => rfl) dX13_isHuge_9 (fun r1 => ?_)
  refine sn_iload_n (y := m_X13_isHuge) (pc := 12) dX13_isHuge_12 rfl ?_
  refine sn_bipush (y := m_X13_isHuge) (pc := 13) dX13_isHuge_13 kc_bipush_12 ?_
  refine sn_imul (y := m_X13_isHuge) (pc := 15) dX13_isHuge_15 ?_
  refine sn_iload_n (y := m_X13_isHuge) (pc := 16) dX13_isHuge_16 rfl ?_
  refine sn_iadd (y := m_X13_isHuge) (pc := 17) dX13_isHuge_17 ?_
  refine sn_laload (y := m_X13_isHuge) (pc := 18) dX13_isHuge_18 (fun r2 => ?_)
  refine sn_ldcJ (y := m_X13_isHuge) (pc := 19) kj_X13_77 dX13_isHuge_19 ?_
  refine sn_lc_gt (y := m_X13_isHuge) (pc := 22) (tgt := 44) dX13_isHuge_22 dX13_isHuge_23 (by decide) (fun _ => ?_) (fun _ => ?_)
  · refine sn_iconst (y := m_X13_isHuge) (pc := 44) dX13_isHuge_44 kc_iconst_1 ?_
    exact sn_zreturnC (by decide) rfl dX13_isHuge_45
  refine sn_aload_n (y := m_X13_isHuge) (pc := 26) dX13_isHuge_26 rfl ?_
  refine sn_getA (y := m_X13_isHuge) (pc := 27) ca_11 rfl fk_X13_13 (fun _ _ _ => rfl) dX13_isHuge_27 (fun r3 => ?_)
  refine sn_iload_n (y := m_X13_isHuge) (pc := 30) dX13_isHuge_30 rfl ?_
  refine sn_bipush (y := m_X13_isHuge) (pc := 31) dX13_isHuge_31 kc_bipush_12 ?_
  refine sn_imul (y := m_X13_isHuge) (pc := 33) dX13_isHuge_33 ?_
  refine sn_iload_n (y := m_X13_isHuge) (pc := 34) dX13_isHuge_34 rfl ?_
  refine sn_iadd (y := m_X13_isHuge) (pc := 35) dX13_isHuge_35 ?_
  refine sn_laload (y := m_X13_isHuge) (pc := 36) dX13_isHuge_36 (fun r4 => ?_)
  refine sn_ldcJ (y := m_X13_isHuge) (pc := 37) kj_X13_79 dX13_isHuge_37 ?_
  refine sn_lc_ge (y := m_X13_isHuge) (pc := 40) (tgt := 46) dX13_isHuge_40 dX13_isHuge_41 (by decide) (fun _ => ?_) (fun _ => ?_)
  · refine sn_iinc (y := m_X13_isHuge) (pc := 46) (v := x2 + 1) dX13_isHuge_46 rfl (by rfl) rfl ?_
    refine sn_goto (y := m_X13_isHuge) (pc := 49) (tgt := 2) dX13_isHuge_49 (by decide) ?_
    exact sn_sub rfl (hk2 (x2 + 1))
  refine sn_iconst (y := m_X13_isHuge) (pc := 44) dX13_isHuge_44 kc_iconst_1 ?_
  exact sn_zreturnC (by decide) rfl dX13_isHuge_45
set_option maxRecDepth 100000 in
theorem s_X13_isHuge_l2 {cx : CX} (x0 : (Option Nat)) (x1 : Int32) (x2 : Int32) : Sn cx m_X13_isHuge eI 2 [(2, vI x2), (0, vA x0), (1, vI x1)] [] (f_X13_isHuge_l2 x0 x1 x2) :=
  sn_lq1 (L := fun x2 => [(2, vI x2), (0, vA x0), (1, vI x1)]) (fun k hk x2 => s_X13_isHuge_b2 x0 x1 hk x2) fuel x2
def f_X13_isHuge (p0 : (Option Nat)) (p1 : Int32) : Mo Int32 :=
  f_X13_isHuge_l2 p0 p1 (0 : Int32)
set_option maxRecDepth 100000 in
theorem s_X13_isHuge {cx : CX} (p0 : (Option Nat)) (p1 : Int32) : Sn cx m_X13_isHuge eI 0 [(0, vA p0), (1, vI p1)] [] (f_X13_isHuge p0 p1) := by
  refine sn_iconst (y := m_X13_isHuge) (pc := 0) dX13_isHuge_0 kc_iconst_0 ?_
  refine sn_istore_n (y := m_X13_isHuge) (pc := 1) dX13_isHuge_1 rfl ?_
  exact sn_sub rfl (s_X13_isHuge_l2 p0 p1 (0 : Int32))
set_option maxRecDepth 100000 in
theorem c_X13_isHuge (g : Gl) (p0 : (Option Nat)) (p1 : Int32) : Cn g m_X13_isHuge eI [vA p0, vI p1] (mCk 11 p0 (f_X13_isHuge p0 p1)) := cn_of_sn (by decide +kernel) rfl (fun r => ⟨r, rfl⟩) rfl (fun _ _ => sn_ck (s_X13_isHuge p0 p1))
/-! X13_isWhole -/
def f_X13_isWhole_b2 (x0 : (Option Nat)) (x1 : Int32) (k2 : Int32 → Mo Int32) (x2 : Int32) : Mo Int32 :=
  (if x2 ≥ (12 : Int32) then mRt (1 : Int32) else mBd (mGetA 11 5 x0) (fun r1 => mBd (mLdJ r1 ((x1 * (12 : Int32)) + x2)) (fun r2 => (if r2 = (0 : Int64) then k2 (x2 + 1) else mRt (0 : Int32)))))
def f_X13_isWhole_l2 (x0 : (Option Nat)) (x1 : Int32) : Int32 → Mo Int32 := lq1 (f_X13_isWhole_b2 x0 x1) fuel
set_option maxRecDepth 100000 in
theorem s_X13_isWhole_b2 {cx : CX} (x0 : (Option Nat)) (x1 : Int32) {k2 : Int32 → Mo Int32} (hk2 : ∀ (z2 : Int32), Sn cx m_X13_isWhole eI 2 [(2, vI z2), (0, vA x0), (1, vI x1)] [] (k2 z2)) (x2 : Int32) : Sn cx m_X13_isWhole eI 2 [(2, vI x2), (0, vA x0), (1, vI x1)] [] (f_X13_isWhole_b2 x0 x1 k2 x2) := by
  refine sn_iload_n (y := m_X13_isWhole) (pc := 2) dX13_isWhole_2 rfl ?_
  refine sn_bipush (y := m_X13_isWhole) (pc := 3) dX13_isWhole_3 kc_bipush_12 ?_
  refine sn_icmp_ge (y := m_X13_isWhole) (pc := 5) (tgt := 32) dX13_isWhole_5 (by decide) (fun _ => ?_) (fun _ => ?_)
  · refine sn_iconst (y := m_X13_isWhole) (pc := 32) dX13_isWhole_32 kc_iconst_1 ?_
    exact sn_zreturnC (by decide) rfl dX13_isWhole_33
  refine sn_aload_n (y := m_X13_isWhole) (pc := 8) dX13_isWhole_8 rfl ?_
  refine sn_getA (y := m_X13_isWhole) (pc := 9) ca_11 rfl fk_X13_13 (fun _ _ _ => rfl) dX13_isWhole_9 (fun r1 => ?_)
  refine sn_iload_n (y := m_X13_isWhole) (pc := 12) dX13_isWhole_12 rfl ?_
  refine sn_bipush (y := m_X13_isWhole) (pc := 13) dX13_isWhole_13 kc_bipush_12 ?_
  refine sn_imul (y := m_X13_isWhole) (pc := 15) dX13_isWhole_15 ?_
  refine sn_iload_n (y := m_X13_isWhole) (pc := 16) dX13_isWhole_16 rfl ?_
  refine sn_iadd (y := m_X13_isWhole) (pc := 17) dX13_isWhole_17 ?_
  refine sn_laload (y := m_X13_isWhole) (pc := 18) dX13_isWhole_18 (fun r2 => ?_)
  refine sn_lconst (y := m_X13_isWhole) (pc := 19) dX13_isWhole_19 kc_lconst_0 ?_
  refine sn_lc_eq (y := m_X13_isWhole) (pc := 20) (tgt := 26) dX13_isWhole_20 dX13_isWhole_21 (by decide) (fun _ => ?_) (fun _ => ?_)
  · refine sn_iinc (y := m_X13_isWhole) (pc := 26) (v := x2 + 1) dX13_isWhole_26 rfl (by rfl) rfl ?_
    refine sn_goto (y := m_X13_isWhole) (pc := 29) (tgt := 2) dX13_isWhole_29 (by decide) ?_
    exact sn_sub rfl (hk2 (x2 + 1))
  refine sn_iconst (y := m_X13_isWhole) (pc := 24) dX13_isWhole_24 kc_iconst_0 ?_
  exact sn_zreturnC (by decide) rfl dX13_isWhole_25
set_option maxRecDepth 100000 in
theorem s_X13_isWhole_l2 {cx : CX} (x0 : (Option Nat)) (x1 : Int32) (x2 : Int32) : Sn cx m_X13_isWhole eI 2 [(2, vI x2), (0, vA x0), (1, vI x1)] [] (f_X13_isWhole_l2 x0 x1 x2) :=
  sn_lq1 (L := fun x2 => [(2, vI x2), (0, vA x0), (1, vI x1)]) (fun k hk x2 => s_X13_isWhole_b2 x0 x1 hk x2) fuel x2
def f_X13_isWhole (p0 : (Option Nat)) (p1 : Int32) : Mo Int32 :=
  f_X13_isWhole_l2 p0 p1 (1 : Int32)
set_option maxRecDepth 100000 in
theorem s_X13_isWhole {cx : CX} (p0 : (Option Nat)) (p1 : Int32) : Sn cx m_X13_isWhole eI 0 [(0, vA p0), (1, vI p1)] [] (f_X13_isWhole p0 p1) := by
  refine sn_iconst (y := m_X13_isWhole) (pc := 0) dX13_isWhole_0 kc_iconst_1 ?_
  refine sn_istore_n (y := m_X13_isWhole) (pc := 1) dX13_isWhole_1 rfl ?_
  exact sn_sub rfl (s_X13_isWhole_l2 p0 p1 (1 : Int32))
set_option maxRecDepth 100000 in
theorem c_X13_isWhole (g : Gl) (p0 : (Option Nat)) (p1 : Int32) : Cn g m_X13_isWhole eI [vA p0, vI p1] (mCk 11 p0 (f_X13_isWhole p0 p1)) := cn_of_sn (by decide +kernel) rfl (fun r => ⟨r, rfl⟩) rfl (fun _ _ => sn_ck (s_X13_isWhole p0 p1))
/-! X13_areAlike -/
def f_X13_areAlike_b2 (x0 : (Option Nat)) (x1 : Int32) (x2 : Int32) (k2 : Int32 → Mo Int32) (x3 : Int32) : Mo Int32 :=
  (if x3 ≥ (12 : Int32) then mRt (1 : Int32) else mBd (mGetA 11 5 x0) (fun r1 => mBd (mLdJ r1 ((x1 * (12 : Int32)) + x3)) (fun r2 => mBd (mGetA 11 5 x0) (fun r3 => mBd (mLdJ r3 ((x2 * (12 : Int32)) + x3)) (fun r4 => (if r2 = r4 then k2 (x3 + 1) else mRt (0 : Int32)))))))
def f_X13_areAlike_l2 (x0 : (Option Nat)) (x1 : Int32) (x2 : Int32) : Int32 → Mo Int32 := lq1 (f_X13_areAlike_b2 x0 x1 x2) fuel
set_option maxRecDepth 100000 in
theorem s_X13_areAlike_b2 {cx : CX} (x0 : (Option Nat)) (x1 : Int32) (x2 : Int32) {k2 : Int32 → Mo Int32} (hk2 : ∀ (z3 : Int32), Sn cx m_X13_areAlike eI 2 [(3, vI z3), (0, vA x0), (1, vI x1), (2, vI x2)] [] (k2 z3)) (x3 : Int32) : Sn cx m_X13_areAlike eI 2 [(3, vI x3), (0, vA x0), (1, vI x1), (2, vI x2)] [] (f_X13_areAlike_b2 x0 x1 x2 k2 x3) := by
  refine sn_iload_n (y := m_X13_areAlike) (pc := 2) dX13_areAlike_2 rfl ?_
  refine sn_bipush (y := m_X13_areAlike) (pc := 3) dX13_areAlike_3 kc_bipush_12 ?_
  refine sn_icmp_ge (y := m_X13_areAlike) (pc := 5) (tgt := 42) dX13_areAlike_5 (by decide) (fun _ => ?_) (fun _ => ?_)
  · refine sn_iconst (y := m_X13_areAlike) (pc := 42) dX13_areAlike_42 kc_iconst_1 ?_
    exact sn_zreturnC (by decide) rfl dX13_areAlike_43
  refine sn_aload_n (y := m_X13_areAlike) (pc := 8) dX13_areAlike_8 rfl ?_
  refine sn_getA (y := m_X13_areAlike) (pc := 9) ca_11 rfl fk_X13_13 (fun _ _ _ => rfl) dX13_areAlike_9 (fun r1 => ?_)
  refine sn_iload_n (y := m_X13_areAlike) (pc := 12) dX13_areAlike_12 rfl ?_
  refine sn_bipush (y := m_X13_areAlike) (pc := 13) dX13_areAlike_13 kc_bipush_12 ?_
  refine sn_imul (y := m_X13_areAlike) (pc := 15) dX13_areAlike_15 ?_
  refine sn_iload_n (y := m_X13_areAlike) (pc := 16) dX13_areAlike_16 rfl ?_
  refine sn_iadd (y := m_X13_areAlike) (pc := 17) dX13_areAlike_17 ?_
  refine sn_laload (y := m_X13_areAlike) (pc := 18) dX13_areAlike_18 (fun r2 => ?_)
  refine sn_aload_n (y := m_X13_areAlike) (pc := 19) dX13_areAlike_19 rfl ?_
  refine sn_getA (y := m_X13_areAlike) (pc := 20) ca_11 rfl fk_X13_13 (fun _ _ _ => rfl) dX13_areAlike_20 (fun r3 => ?_)
  refine sn_iload_n (y := m_X13_areAlike) (pc := 23) dX13_areAlike_23 rfl ?_
  refine sn_bipush (y := m_X13_areAlike) (pc := 24) dX13_areAlike_24 kc_bipush_12 ?_
  refine sn_imul (y := m_X13_areAlike) (pc := 26) dX13_areAlike_26 ?_
  refine sn_iload_n (y := m_X13_areAlike) (pc := 27) dX13_areAlike_27 rfl ?_
  refine sn_iadd (y := m_X13_areAlike) (pc := 28) dX13_areAlike_28 ?_
  refine sn_laload (y := m_X13_areAlike) (pc := 29) dX13_areAlike_29 (fun r4 => ?_)
  refine sn_lc_eq (y := m_X13_areAlike) (pc := 30) (tgt := 36) dX13_areAlike_30 dX13_areAlike_31 (by decide) (fun _ => ?_) (fun _ => ?_)
  · refine sn_iinc (y := m_X13_areAlike) (pc := 36) (v := x3 + 1) dX13_areAlike_36 rfl (by rfl) rfl ?_
    refine sn_goto (y := m_X13_areAlike) (pc := 39) (tgt := 2) dX13_areAlike_39 (by decide) ?_
    exact sn_sub rfl (hk2 (x3 + 1))
  refine sn_iconst (y := m_X13_areAlike) (pc := 34) dX13_areAlike_34 kc_iconst_0 ?_
  exact sn_zreturnC (by decide) rfl dX13_areAlike_35
set_option maxRecDepth 100000 in
theorem s_X13_areAlike_l2 {cx : CX} (x0 : (Option Nat)) (x1 : Int32) (x2 : Int32) (x3 : Int32) : Sn cx m_X13_areAlike eI 2 [(3, vI x3), (0, vA x0), (1, vI x1), (2, vI x2)] [] (f_X13_areAlike_l2 x0 x1 x2 x3) :=
  sn_lq1 (L := fun x3 => [(3, vI x3), (0, vA x0), (1, vI x1), (2, vI x2)]) (fun k hk x3 => s_X13_areAlike_b2 x0 x1 x2 hk x3) fuel x3
def f_X13_areAlike (p0 : (Option Nat)) (p1 : Int32) (p2 : Int32) : Mo Int32 :=
  f_X13_areAlike_l2 p0 p1 p2 (0 : Int32)
set_option maxRecDepth 100000 in
theorem s_X13_areAlike {cx : CX} (p0 : (Option Nat)) (p1 : Int32) (p2 : Int32) : Sn cx m_X13_areAlike eI 0 [(0, vA p0), (1, vI p1), (2, vI p2)] [] (f_X13_areAlike p0 p1 p2) := by
  refine sn_iconst (y := m_X13_areAlike) (pc := 0) dX13_areAlike_0 kc_iconst_0 ?_
  refine sn_istore_n (y := m_X13_areAlike) (pc := 1) dX13_areAlike_1 rfl ?_
  exact sn_sub rfl (s_X13_areAlike_l2 p0 p1 p2 (0 : Int32))
set_option maxRecDepth 100000 in
theorem c_X13_areAlike (g : Gl) (p0 : (Option Nat)) (p1 : Int32) (p2 : Int32) : Cn g m_X13_areAlike eI [vA p0, vI p1, vI p2] (mCk 11 p0 (f_X13_areAlike p0 p1 p2)) := cn_of_sn (by decide +kernel) rfl (fun r => ⟨r, rfl⟩) rfl (fun _ _ => sn_ck (s_X13_areAlike p0 p1 p2))
/-! X13_at -/
def f_X13_at (p0 : (Option Nat)) (p1 : Int32) (p2 : Int32) : Mo Int32 :=
  mBd (mGetI 10 0 p0) (fun r1 => mRq (¬ r1 = 0) (mNm (irem p2 r1) (fun n2 => (if ¬ n2 = 0 then mBd (mGetA 10 4 p0) (fun r3 => mBd (mLdI 1 r3 n2) (fun r4 => mBd (mGetI 10 1 p0) (fun r5 => mRq (¬ r5 = 0) (mRt (irem (p1 * r4) r5))))) else (if ¬ p1 = 0 then mRt (-2 : Int32) else mRt (0 : Int32))))))
set_option maxRecDepth 100000 in
theorem s_X13_at {cx : CX} (p0 : (Option Nat)) (p1 : Int32) (p2 : Int32) : Sn cx m_X13_at eI 0 [(0, vA p0), (1, vI p1), (2, vI p2)] [] (f_X13_at p0 p1 p2) := by
  refine sn_iload_n (y := m_X13_at) (pc := 0) dX13_at_0 rfl ?_
  refine sn_aload_n (y := m_X13_at) (pc := 1) dX13_at_1 rfl ?_
  refine sn_getI (y := m_X13_at) (pc := 2) ca_10 rfl fk_X13_81 (fun _ _ _ => rfl) dX13_at_2 (fun r1 => ?_)
  refine sn_irem (y := m_X13_at) (pc := 5) dX13_at_5 ?_
  refine sn_istore_nM (y := m_X13_at) (pc := 6) dX13_at_6 rfl (fun n2 => ?_)
  refine sn_iload_n (y := m_X13_at) (pc := 7) dX13_at_7 rfl ?_
  refine sn_if_ne (y := m_X13_at) (pc := 8) (tgt := 22) dX13_at_8 (by decide) (fun _ => ?_) (fun _ => ?_)
  · refine sn_iload_n (y := m_X13_at) (pc := 22) dX13_at_22 rfl ?_
    refine sn_aload_n (y := m_X13_at) (pc := 23) dX13_at_23 rfl ?_
    refine sn_getA (y := m_X13_at) (pc := 24) ca_10 rfl fk_X13_84 (fun _ _ _ => rfl) dX13_at_24 (fun r3 => ?_)
    refine sn_iload_n (y := m_X13_at) (pc := 27) dX13_at_27 rfl ?_
    refine sn_iaload (y := m_X13_at) (pc := 28) dX13_at_28 (fun r4 => ?_)
    refine sn_imul (y := m_X13_at) (pc := 29) dX13_at_29 ?_
    refine sn_aload_n (y := m_X13_at) (pc := 30) dX13_at_30 rfl ?_
    refine sn_getI (y := m_X13_at) (pc := 31) ca_10 rfl fk_X13_59 (fun _ _ _ => rfl) dX13_at_31 (fun r5 => ?_)
    refine sn_irem (y := m_X13_at) (pc := 34) dX13_at_34 ?_
    exact sn_ireturn rfl dX13_at_35
  refine sn_iload_n (y := m_X13_at) (pc := 11) dX13_at_11 rfl ?_
  refine sn_if_ne (y := m_X13_at) (pc := 12) (tgt := 19) dX13_at_12 (by decide) (fun _ => ?_) (fun _ => ?_)
  · refine sn_bipush (y := m_X13_at) (pc := 19) dX13_at_19 kc_bipush_m2 ?_
    exact sn_ireturn rfl dX13_at_21
  refine sn_iconst (y := m_X13_at) (pc := 15) dX13_at_15 kc_iconst_0 ?_
  refine sn_goto (y := m_X13_at) (pc := 16) (tgt := 21) dX13_at_16 (by decide) ?_
  exact sn_ireturn rfl dX13_at_21
set_option maxRecDepth 100000 in
theorem c_X13_at (g : Gl) (p0 : (Option Nat)) (p1 : Int32) (p2 : Int32) : Cn g m_X13_at eI [vA p0, vI p1, vI p2] (f_X13_at p0 p1 p2) := cn_of_sn (by decide +kernel) rfl (fun r => ⟨r, rfl⟩) rfl (fun _ _ => s_X13_at p0 p1 p2)
/-! X13_jacobiRow -/
def f_X13_jacobiRow_b7 (x0 : (Option Nat)) (x1 : (Option Nat)) (x2 : Int32) (x3 : Int32) (x4 : Int32) (k7 : Int32 → Mo Unit) (x5 : Int32) : Mo Unit :=
  mBd (mGetI 10 0 x1) (fun r1 => (if x5 ≥ r1 then mBd (mCk 11 x0 (f_X13_settles x0 x1 x4)) (fun _ => mRt ()) else mBd (f_X13_at x1 x2 x5) (fun r2 => mBd (mGetI 10 0 x1) (fun r3 => mBd (f_X13_at x1 x3 ((r3 + (1 : Int32)) - x5)) (fun r4 => (if r2 = (-2 : Int32) then k7 (x5 + 1) else (if r4 = (-2 : Int32) then k7 (x5 + 1) else mBd (mGetA 11 6 x0) (fun r5 => mBd (mGetI 10 1 x1) (fun r6 => mRq (¬ r6 = 0) (mBd (mLdJ r5 (irem (r2 + r4) r6)) (fun r7 => mBd (mStJ r5 (irem (r2 + r4) r6) (r7 + (1 : Int64))) (fun _ => k7 (x5 + 1)))))))))))))
def f_X13_jacobiRow_l7 (x0 : (Option Nat)) (x1 : (Option Nat)) (x2 : Int32) (x3 : Int32) (x4 : Int32) : Int32 → Mo Unit := lq1 (f_X13_jacobiRow_b7 x0 x1 x2 x3 x4) fuel
set_option maxRecDepth 100000 in
theorem s_X13_jacobiRow_b7 {cx : CX} (x0 : (Option Nat)) (x1 : (Option Nat)) (x2 : Int32) (x3 : Int32) (x4 : Int32) {k7 : Int32 → Mo Unit} (hk7 : ∀ (z5 : Int32), Sn cx m_X13_jacobiRow eV 7 [(5, vI z5), (0, vA x0), (1, vA x1), (2, vI x2), (3, vI x3), (4, vI x4)] [] (k7 z5)) (x5 : Int32) : Sn cx m_X13_jacobiRow eV 7 [(5, vI x5), (0, vA x0), (1, vA x1), (2, vI x2), (3, vI x3), (4, vI x4)] [] (f_X13_jacobiRow_b7 x0 x1 x2 x3 x4 k7 x5) := by
  refine sn_iload (y := m_X13_jacobiRow) (pc := 7) dX13_jacobiRow_7 rfl ?_
  refine sn_aload_n (y := m_X13_jacobiRow) (pc := 9) dX13_jacobiRow_9 rfl ?_
  refine sn_getI (y := m_X13_jacobiRow) (pc := 10) ca_10 rfl fk_X13_81 (fun _ _ _ => rfl) dX13_jacobiRow_10 (fun r1 => ?_)
  refine sn_icmp_ge (y := m_X13_jacobiRow) (pc := 13) (tgt := 80) dX13_jacobiRow_13 (by decide) (fun _ => ?_) (fun _ => ?_)
  · refine sn_aload_n (y := m_X13_jacobiRow) (pc := 80) dX13_jacobiRow_80 rfl ?_
    refine sn_aload_n (y := m_X13_jacobiRow) (pc := 81) dX13_jacobiRow_81 rfl ?_
    refine sn_iload (y := m_X13_jacobiRow) (pc := 82) dX13_jacobiRow_82 rfl ?_
    refine sn_invV (y := m_X13_jacobiRow) (pc := 84) ca_11 (av := [vA x1, vI x4]) (o := x0) (st := []) dX13_jacobiRow_84 lk_X13_73 im_X13_settles se_X13_settles rfl rfl rfl rfl ⟨by decide, by decide⟩ (c_X13_settles cx.1 x0 x1 x4) (fun _ => ?_)
    exact sn_return rfl dX13_jacobiRow_87
  refine sn_aload_n (y := m_X13_jacobiRow) (pc := 16) dX13_jacobiRow_16 rfl ?_
  refine sn_iload_n (y := m_X13_jacobiRow) (pc := 17) dX13_jacobiRow_17 rfl ?_
  refine sn_iload (y := m_X13_jacobiRow) (pc := 18) dX13_jacobiRow_18 rfl ?_
  refine sn_invS (y := m_X13_jacobiRow) (pc := 20) (av := [vA x1, vI x2, vI x5]) (st := []) dX13_jacobiRow_20 lk_X13_87 sw_X13_at rfl rfl rfl ⟨by decide, by decide⟩ (c_X13_at cx.1 x1 x2 x5) (fun r2 => ?_)
  refine sn_istore (y := m_X13_jacobiRow) (pc := 23) dX13_jacobiRow_23 rfl ?_
  refine sn_aload_n (y := m_X13_jacobiRow) (pc := 25) dX13_jacobiRow_25 rfl ?_
  refine sn_iload_n (y := m_X13_jacobiRow) (pc := 26) dX13_jacobiRow_26 rfl ?_
  refine sn_aload_n (y := m_X13_jacobiRow) (pc := 27) dX13_jacobiRow_27 rfl ?_
  refine sn_getI (y := m_X13_jacobiRow) (pc := 28) ca_10 rfl fk_X13_81 (fun _ _ _ => rfl) dX13_jacobiRow_28 (fun r3 => ?_)
  refine sn_iconst (y := m_X13_jacobiRow) (pc := 31) dX13_jacobiRow_31 kc_iconst_1 ?_
  refine sn_iadd (y := m_X13_jacobiRow) (pc := 32) dX13_jacobiRow_32 ?_
  refine sn_iload (y := m_X13_jacobiRow) (pc := 33) dX13_jacobiRow_33 rfl ?_
  refine sn_isub (y := m_X13_jacobiRow) (pc := 35) dX13_jacobiRow_35 ?_
  refine sn_invS (y := m_X13_jacobiRow) (pc := 36) (av := [vA x1, vI x3, vI ((r3 + (1 : Int32)) - x5)]) (st := []) dX13_jacobiRow_36 lk_X13_87 sw_X13_at rfl rfl rfl ⟨by decide, by decide⟩ (c_X13_at cx.1 x1 x3 ((r3 + (1 : Int32)) - x5)) (fun r4 => ?_)
  refine sn_istore (y := m_X13_jacobiRow) (pc := 39) dX13_jacobiRow_39 rfl ?_
  refine sn_iload (y := m_X13_jacobiRow) (pc := 41) dX13_jacobiRow_41 rfl ?_
  refine sn_bipush (y := m_X13_jacobiRow) (pc := 43) dX13_jacobiRow_43 kc_bipush_m2 ?_
  refine sn_icmp_eq (y := m_X13_jacobiRow) (pc := 45) (tgt := 74) dX13_jacobiRow_45 (by decide) (fun _ => ?_) (fun _ => ?_)
  · refine sn_iinc (y := m_X13_jacobiRow) (pc := 74) (v := x5 + 1) dX13_jacobiRow_74 rfl (by rfl) rfl ?_
    refine sn_goto (y := m_X13_jacobiRow) (pc := 77) (tgt := 7) dX13_jacobiRow_77 (by decide) ?_
    exact sn_sub rfl (hk7 (x5 + 1))
  refine sn_iload (y := m_X13_jacobiRow) (pc := 48) dX13_jacobiRow_48 rfl ?_
  refine sn_bipush (y := m_X13_jacobiRow) (pc := 50) dX13_jacobiRow_50 kc_bipush_m2 ?_
  refine sn_icmp_eq (y := m_X13_jacobiRow) (pc := 52) (tgt := 74) dX13_jacobiRow_52 (by decide) (fun _ => ?_) (fun _ => ?_)
  · refine sn_iinc (y := m_X13_jacobiRow) (pc := 74) (v := x5 + 1) dX13_jacobiRow_74 rfl (by rfl) rfl ?_
    refine sn_goto (y := m_X13_jacobiRow) (pc := 77) (tgt := 7) dX13_jacobiRow_77 (by decide) ?_
    exact sn_sub rfl (hk7 (x5 + 1))
  refine sn_aload_n (y := m_X13_jacobiRow) (pc := 55) dX13_jacobiRow_55 rfl ?_
  refine sn_getA (y := m_X13_jacobiRow) (pc := 56) ca_11 rfl fk_X13_17 (fun _ _ _ => rfl) dX13_jacobiRow_56 (fun r5 => ?_)
  refine sn_iload (y := m_X13_jacobiRow) (pc := 59) dX13_jacobiRow_59 rfl ?_
  refine sn_iload (y := m_X13_jacobiRow) (pc := 61) dX13_jacobiRow_61 rfl ?_
  refine sn_iadd (y := m_X13_jacobiRow) (pc := 63) dX13_jacobiRow_63 ?_
  refine sn_aload_n (y := m_X13_jacobiRow) (pc := 64) dX13_jacobiRow_64 rfl ?_
  refine sn_getI (y := m_X13_jacobiRow) (pc := 65) ca_10 rfl fk_X13_59 (fun _ _ _ => rfl) dX13_jacobiRow_65 (fun r6 => ?_)
  refine sn_irem (y := m_X13_jacobiRow) (pc := 68) dX13_jacobiRow_68 ?_
  refine sn_dup2 (y := m_X13_jacobiRow) (pc := 69) rfl rfl dX13_jacobiRow_69 ?_
  refine sn_laload (y := m_X13_jacobiRow) (pc := 70) dX13_jacobiRow_70 (fun r7 => ?_)
  refine sn_lconst (y := m_X13_jacobiRow) (pc := 71) dX13_jacobiRow_71 kc_lconst_1 ?_
  refine sn_ladd (y := m_X13_jacobiRow) (pc := 72) dX13_jacobiRow_72 ?_
  refine sn_lastore (y := m_X13_jacobiRow) (pc := 73) dX13_jacobiRow_73 ?_
  refine sn_iinc (y := m_X13_jacobiRow) (pc := 74) (v := x5 + 1) dX13_jacobiRow_74 rfl (by rfl) rfl ?_
  refine sn_goto (y := m_X13_jacobiRow) (pc := 77) (tgt := 7) dX13_jacobiRow_77 (by decide) ?_
  exact sn_sub rfl (hk7 (x5 + 1))
set_option maxRecDepth 100000 in
theorem s_X13_jacobiRow_l7 {cx : CX} (x0 : (Option Nat)) (x1 : (Option Nat)) (x2 : Int32) (x3 : Int32) (x4 : Int32) (x5 : Int32) : Sn cx m_X13_jacobiRow eV 7 [(5, vI x5), (0, vA x0), (1, vA x1), (2, vI x2), (3, vI x3), (4, vI x4)] [] (f_X13_jacobiRow_l7 x0 x1 x2 x3 x4 x5) :=
  sn_lq1 (L := fun x5 => [(5, vI x5), (0, vA x0), (1, vA x1), (2, vI x2), (3, vI x3), (4, vI x4)]) (fun k hk x5 => s_X13_jacobiRow_b7 x0 x1 x2 x3 x4 hk x5) fuel x5
def f_X13_jacobiRow (p0 : (Option Nat)) (p1 : (Option Nat)) (p2 : Int32) (p3 : Int32) (p4 : Int32) : Mo Unit :=
  mBd (mCk 11 p0 (f_X13_clearWide p0)) (fun _ => f_X13_jacobiRow_l7 p0 p1 p2 p3 p4 (0 : Int32))
set_option maxRecDepth 100000 in
theorem s_X13_jacobiRow {cx : CX} (p0 : (Option Nat)) (p1 : (Option Nat)) (p2 : Int32) (p3 : Int32) (p4 : Int32) : Sn cx m_X13_jacobiRow eV 0 [(0, vA p0), (1, vA p1), (2, vI p2), (3, vI p3), (4, vI p4)] [] (f_X13_jacobiRow p0 p1 p2 p3 p4) := by
  refine sn_aload_n (y := m_X13_jacobiRow) (pc := 0) dX13_jacobiRow_0 rfl ?_
  refine sn_invV (y := m_X13_jacobiRow) (pc := 1) ca_11 (av := []) (o := p0) (st := []) dX13_jacobiRow_1 lk_X13_70 im_X13_clearWide se_X13_clearWide rfl rfl rfl rfl ⟨by decide, by decide⟩ (c_X13_clearWide cx.1 p0) (fun _ => ?_)
  refine sn_iconst (y := m_X13_jacobiRow) (pc := 4) dX13_jacobiRow_4 kc_iconst_0 ?_
  refine sn_istore (y := m_X13_jacobiRow) (pc := 5) dX13_jacobiRow_5 rfl ?_
  exact sn_sub rfl (s_X13_jacobiRow_l7 p0 p1 p2 p3 p4 (0 : Int32))
set_option maxRecDepth 100000 in
theorem c_X13_jacobiRow (g : Gl) (p0 : (Option Nat)) (p1 : (Option Nat)) (p2 : Int32) (p3 : Int32) (p4 : Int32) : Cn g m_X13_jacobiRow eV [vA p0, vA p1, vI p2, vI p3, vI p4] (mCk 11 p0 (f_X13_jacobiRow p0 p1 p2 p3 p4)) := cn_of_sn (by decide +kernel) rfl (fun _ => rfl) rfl (fun _ _ => sn_ck (s_X13_jacobiRow p0 p1 p2 p3 p4))
/-! X13_partOf -/
def f_X13_partOf_b35 (x0 : (Option Nat)) (x1 : (Option Nat)) (x2 : Int32) (x4 : Int32) (k35 : Int64 → Int64 → Int32 → Mo Int32) (x5 : Int64) (x7 : Int64) (x9 : Int32) : Mo Int32 :=
  mBd (mGetI 10 3 x1) (fun r6 => (if x9 ≥ r6 then mBd (mGetI 10 0 x1) (fun r7 => mBd (mGetI 10 0 x1) (fun r8 => mRq (¬ (r8.toInt64) = 0) (mRt ((lrem (x5 + (r7.toInt64)) (r8.toInt64)).toInt32)))) else mBd (mGetA 11 5 x0) (fun r9 => mBd (mLdJ r9 ((x2 * (12 : Int32)) + x9)) (fun r10 => mBd (mGetI 10 0 x1) (fun r11 => mRq (¬ (r11.toInt64) = 0) (mBd (mGetI 10 0 x1) (fun r12 => mRq (¬ (r12.toInt64) = 0) (mNm (lrem (x5 + ((lrem r10 (r11.toInt64)) * x7)) (r12.toInt64)) (fun n13 => mBd (mGetI 10 0 x1) (fun r14 => mRq (¬ (r14.toInt64) = 0) (mNm (lrem (x7 * (x4.toInt64)) (r14.toInt64)) (fun n15 => k35 n13 n15 (x9 + 1)))))))))))))
def f_X13_partOf_l35 (x0 : (Option Nat)) (x1 : (Option Nat)) (x2 : Int32) (x4 : Int32) : Int64 → Int64 → Int32 → Mo Int32 := lq3 (f_X13_partOf_b35 x0 x1 x2 x4) fuel
set_option maxRecDepth 100000 in
theorem s_X13_partOf_b35 {cx : CX} (x0 : (Option Nat)) (x1 : (Option Nat)) (x2 : Int32) (x4 : Int32) {k35 : Int64 → Int64 → Int32 → Mo Int32} (hk35 : ∀ (z5 : Int64) (z7 : Int64) (z9 : Int32), Sn cx m_X13_partOf eI 35 [(5, vJ z5), (7, vJ z7), (9, vI z9), (0, vA x0), (1, vA x1), (2, vI x2), (4, vI x4)] [] (k35 z5 z7 z9)) (x5 : Int64) (x7 : Int64) (x9 : Int32) : Sn cx m_X13_partOf eI 35 [(5, vJ x5), (7, vJ x7), (9, vI x9), (0, vA x0), (1, vA x1), (2, vI x2), (4, vI x4)] [] (f_X13_partOf_b35 x0 x1 x2 x4 k35 x5 x7 x9) := by
  refine sn_iload (y := m_X13_partOf) (pc := 35) dX13_partOf_35 rfl ?_
  refine sn_aload_n (y := m_X13_partOf) (pc := 37) dX13_partOf_37 rfl ?_
  refine sn_getI (y := m_X13_partOf) (pc := 38) ca_10 rfl fk_X13_64 (fun _ _ _ => rfl) dX13_partOf_38 (fun r6 => ?_)
  refine sn_icmp_ge (y := m_X13_partOf) (pc := 41) (tgt := 96) dX13_partOf_41 (by decide) (fun _ => ?_) (fun _ => ?_)
  · refine sn_lload (y := m_X13_partOf) (pc := 96) dX13_partOf_96 rfl ?_
    refine sn_aload_n (y := m_X13_partOf) (pc := 98) dX13_partOf_98 rfl ?_
    refine sn_getI (y := m_X13_partOf) (pc := 99) ca_10 rfl fk_X13_81 (fun _ _ _ => rfl) dX13_partOf_99 (fun r7 => ?_)
    refine sn_i2l (y := m_X13_partOf) (pc := 102) dX13_partOf_102 ?_
    refine sn_ladd (y := m_X13_partOf) (pc := 103) dX13_partOf_103 ?_
    refine sn_aload_n (y := m_X13_partOf) (pc := 104) dX13_partOf_104 rfl ?_
    refine sn_getI (y := m_X13_partOf) (pc := 105) ca_10 rfl fk_X13_81 (fun _ _ _ => rfl) dX13_partOf_105 (fun r8 => ?_)
    refine sn_i2l (y := m_X13_partOf) (pc := 108) dX13_partOf_108 ?_
    refine sn_lrem (y := m_X13_partOf) (pc := 109) dX13_partOf_109 ?_
    refine sn_l2i (y := m_X13_partOf) (pc := 110) dX13_partOf_110 ?_
    exact sn_ireturn rfl dX13_partOf_111
  refine sn_lload (y := m_X13_partOf) (pc := 44) dX13_partOf_44 rfl ?_
  refine sn_aload_n (y := m_X13_partOf) (pc := 46) dX13_partOf_46 rfl ?_
  refine sn_getA (y := m_X13_partOf) (pc := 47) ca_11 rfl fk_X13_13 (fun _ _ _ => rfl) dX13_partOf_47 (fun r9 => ?_)
  refine sn_iload_n (y := m_X13_partOf) (pc := 50) dX13_partOf_50 rfl ?_
  refine sn_bipush (y := m_X13_partOf) (pc := 51) dX13_partOf_51 kc_bipush_12 ?_
  refine sn_imul (y := m_X13_partOf) (pc := 53) dX13_partOf_53 ?_
  refine sn_iload (y := m_X13_partOf) (pc := 54) dX13_partOf_54 rfl ?_
  refine sn_iadd (y := m_X13_partOf) (pc := 56) dX13_partOf_56 ?_
  refine sn_laload (y := m_X13_partOf) (pc := 57) dX13_partOf_57 (fun r10 => ?_)
  refine sn_aload_n (y := m_X13_partOf) (pc := 58) dX13_partOf_58 rfl ?_
  refine sn_getI (y := m_X13_partOf) (pc := 59) ca_10 rfl fk_X13_81 (fun _ _ _ => rfl) dX13_partOf_59 (fun r11 => ?_)
  refine sn_i2l (y := m_X13_partOf) (pc := 62) dX13_partOf_62 ?_
  refine sn_lrem (y := m_X13_partOf) (pc := 63) dX13_partOf_63 ?_
  refine sn_lload (y := m_X13_partOf) (pc := 64) dX13_partOf_64 rfl ?_
  refine sn_lmul (y := m_X13_partOf) (pc := 66) dX13_partOf_66 ?_
  refine sn_ladd (y := m_X13_partOf) (pc := 67) dX13_partOf_67 ?_
  refine sn_aload_n (y := m_X13_partOf) (pc := 68) dX13_partOf_68 rfl ?_
  refine sn_getI (y := m_X13_partOf) (pc := 69) ca_10 rfl fk_X13_81 (fun _ _ _ => rfl) dX13_partOf_69 (fun r12 => ?_)
  refine sn_i2l (y := m_X13_partOf) (pc := 72) dX13_partOf_72 ?_
  refine sn_lrem (y := m_X13_partOf) (pc := 73) dX13_partOf_73 ?_
  refine sn_lstoreM (y := m_X13_partOf) (pc := 74) dX13_partOf_74 rfl (fun n13 => ?_)
  refine sn_lload (y := m_X13_partOf) (pc := 76) dX13_partOf_76 rfl ?_
  refine sn_iload (y := m_X13_partOf) (pc := 78) dX13_partOf_78 rfl ?_
  refine sn_i2l (y := m_X13_partOf) (pc := 80) dX13_partOf_80 ?_
  refine sn_lmul (y := m_X13_partOf) (pc := 81) dX13_partOf_81 ?_
  refine sn_aload_n (y := m_X13_partOf) (pc := 82) dX13_partOf_82 rfl ?_
  refine sn_getI (y := m_X13_partOf) (pc := 83) ca_10 rfl fk_X13_81 (fun _ _ _ => rfl) dX13_partOf_83 (fun r14 => ?_)
  refine sn_i2l (y := m_X13_partOf) (pc := 86) dX13_partOf_86 ?_
  refine sn_lrem (y := m_X13_partOf) (pc := 87) dX13_partOf_87 ?_
  refine sn_lstoreM (y := m_X13_partOf) (pc := 88) dX13_partOf_88 rfl (fun n15 => ?_)
  refine sn_iinc (y := m_X13_partOf) (pc := 90) (v := x9 + 1) dX13_partOf_90 rfl (by rfl) rfl ?_
  refine sn_goto (y := m_X13_partOf) (pc := 93) (tgt := 35) dX13_partOf_93 (by decide) ?_
  exact sn_sub rfl (hk35 n13 n15 (x9 + 1))
set_option maxRecDepth 100000 in
theorem s_X13_partOf_l35 {cx : CX} (x0 : (Option Nat)) (x1 : (Option Nat)) (x2 : Int32) (x4 : Int32) (x5 : Int64) (x7 : Int64) (x9 : Int32) : Sn cx m_X13_partOf eI 35 [(5, vJ x5), (7, vJ x7), (9, vI x9), (0, vA x0), (1, vA x1), (2, vI x2), (4, vI x4)] [] (f_X13_partOf_l35 x0 x1 x2 x4 x5 x7 x9) :=
  sn_lq3 (L := fun x5 x7 x9 => [(5, vJ x5), (7, vJ x7), (9, vI x9), (0, vA x0), (1, vA x1), (2, vI x2), (4, vI x4)]) (fun k hk x5 x7 x9 => s_X13_partOf_b35 x0 x1 x2 x4 hk x5 x7 x9) fuel x5 x7 x9
def f_X13_partOf (p0 : (Option Nat)) (p1 : (Option Nat)) (p2 : Int32) (p3 : Int32) : Mo Int32 :=
  mBd (mGetI 10 2 p1) (fun r1 => mBd (mGetI 10 0 p1) (fun r2 => mBd (mGetI 10 1 p1) (fun r3 => mRq (¬ r3 = 0) (mBd (mGetI 10 0 p1) (fun r4 => mBd (f_X13_raised r1 ((p3 * (r2 - (1 : Int32))) / r3) r4) (fun r5 => f_X13_partOf_l35 p0 p1 p2 r5 (0 : Int64) (1 : Int64) (0 : Int32)))))))
set_option maxRecDepth 100000 in
theorem s_X13_partOf {cx : CX} (p0 : (Option Nat)) (p1 : (Option Nat)) (p2 : Int32) (p3 : Int32) : Sn cx m_X13_partOf eI 0 [(0, vA p0), (1, vA p1), (2, vI p2), (3, vI p3)] [] (f_X13_partOf p0 p1 p2 p3) := by
  refine sn_aload_n (y := m_X13_partOf) (pc := 0) dX13_partOf_0 rfl ?_
  refine sn_getI (y := m_X13_partOf) (pc := 1) ca_10 rfl fk_X13_91 (fun _ _ _ => rfl) dX13_partOf_1 (fun r1 => ?_)
  refine sn_iload_n (y := m_X13_partOf) (pc := 4) dX13_partOf_4 rfl ?_
  refine sn_aload_n (y := m_X13_partOf) (pc := 5) dX13_partOf_5 rfl ?_
  refine sn_getI (y := m_X13_partOf) (pc := 6) ca_10 rfl fk_X13_81 (fun _ _ _ => rfl) dX13_partOf_6 (fun r2 => ?_)
  refine sn_iconst (y := m_X13_partOf) (pc := 9) dX13_partOf_9 kc_iconst_1 ?_
  refine sn_isub (y := m_X13_partOf) (pc := 10) dX13_partOf_10 ?_
  refine sn_imul (y := m_X13_partOf) (pc := 11) dX13_partOf_11 ?_
  refine sn_aload_n (y := m_X13_partOf) (pc := 12) dX13_partOf_12 rfl ?_
  refine sn_getI (y := m_X13_partOf) (pc := 13) ca_10 rfl fk_X13_59 (fun _ _ _ => rfl) dX13_partOf_13 (fun r3 => ?_)
  refine sn_idiv (y := m_X13_partOf) (pc := 16) dX13_partOf_16 ?_
  refine sn_aload_n (y := m_X13_partOf) (pc := 17) dX13_partOf_17 rfl ?_
  refine sn_getI (y := m_X13_partOf) (pc := 18) ca_10 rfl fk_X13_81 (fun _ _ _ => rfl) dX13_partOf_18 (fun r4 => ?_)
  refine sn_invS (y := m_X13_partOf) (pc := 21) (av := [vI r1, vI ((p3 * (r2 - (1 : Int32))) / r3), vI r4]) (st := []) dX13_partOf_21 lk_X13_94 sw_X13_raised rfl rfl rfl ⟨by decide, by decide⟩ (c_X13_raised cx.1 r1 ((p3 * (r2 - (1 : Int32))) / r3) r4) (fun r5 => ?_)
  refine sn_istore (y := m_X13_partOf) (pc := 24) dX13_partOf_24 rfl ?_
  refine sn_lconst (y := m_X13_partOf) (pc := 26) dX13_partOf_26 kc_lconst_0 ?_
  refine sn_lstore (y := m_X13_partOf) (pc := 27) dX13_partOf_27 rfl ?_
  refine sn_lconst (y := m_X13_partOf) (pc := 29) dX13_partOf_29 kc_lconst_1 ?_
  refine sn_lstore (y := m_X13_partOf) (pc := 30) dX13_partOf_30 rfl ?_
  refine sn_iconst (y := m_X13_partOf) (pc := 32) dX13_partOf_32 kc_iconst_0 ?_
  refine sn_istore (y := m_X13_partOf) (pc := 33) dX13_partOf_33 rfl ?_
  exact sn_sub rfl (s_X13_partOf_l35 p0 p1 p2 r5 (0 : Int64) (1 : Int64) (0 : Int32))
set_option maxRecDepth 100000 in
theorem c_X13_partOf (g : Gl) (p0 : (Option Nat)) (p1 : (Option Nat)) (p2 : Int32) (p3 : Int32) : Cn g m_X13_partOf eI [vA p0, vA p1, vI p2, vI p3] (mCk 11 p0 (f_X13_partOf p0 p1 p2 p3)) := cn_of_sn (by decide +kernel) rfl (fun r => ⟨r, rfl⟩) rfl (fun _ _ => sn_ck (s_X13_partOf p0 p1 p2 p3))
/-! X13_byteAt -/
def f_X13_byteAt (p0 : (Option Nat)) (p1 : Int32) : Mo Int32 :=
  mBd (mGetI 11 9 p0) (fun r1 => (if p1 ≥ r1 then mRt (-1 : Int32) else mBd (mGetA 11 7 p0) (fun r2 => mBd (mLdI 3 r2 p1) (fun r3 => mRt (r3 &&& (255 : Int32))))))
set_option maxRecDepth 100000 in
theorem s_X13_byteAt {cx : CX} (p0 : (Option Nat)) (p1 : Int32) : Sn cx m_X13_byteAt eI 0 [(0, vA p0), (1, vI p1)] [] (f_X13_byteAt p0 p1) := by
  refine sn_iload_n (y := m_X13_byteAt) (pc := 0) dX13_byteAt_0 rfl ?_
  refine sn_aload_n (y := m_X13_byteAt) (pc := 1) dX13_byteAt_1 rfl ?_
  refine sn_getI (y := m_X13_byteAt) (pc := 2) ca_11 rfl fk_X13_98 (fun _ _ _ => rfl) dX13_byteAt_2 (fun r1 => ?_)
  refine sn_icmp_ge (y := m_X13_byteAt) (pc := 5) (tgt := 21) dX13_byteAt_5 (by decide) (fun _ => ?_) (fun _ => ?_)
  · refine sn_iconst (y := m_X13_byteAt) (pc := 21) dX13_byteAt_21 kc_iconst_m1 ?_
    exact sn_ireturn rfl dX13_byteAt_22
  refine sn_aload_n (y := m_X13_byteAt) (pc := 8) dX13_byteAt_8 rfl ?_
  refine sn_getA (y := m_X13_byteAt) (pc := 9) ca_11 rfl fk_X13_20 (fun _ _ _ => rfl) dX13_byteAt_9 (fun r2 => ?_)
  refine sn_iload_n (y := m_X13_byteAt) (pc := 12) dX13_byteAt_12 rfl ?_
  refine sn_baload (y := m_X13_byteAt) (pc := 13) dX13_byteAt_13 (fun r3 => ?_)
  refine sn_sipush (y := m_X13_byteAt) (pc := 14) dX13_byteAt_14 kc_sipush_255 ?_
  refine sn_iand (y := m_X13_byteAt) (pc := 17) dX13_byteAt_17 ?_
  refine sn_goto (y := m_X13_byteAt) (pc := 18) (tgt := 22) dX13_byteAt_18 (by decide) ?_
  exact sn_ireturn rfl dX13_byteAt_22
set_option maxRecDepth 100000 in
theorem c_X13_byteAt (g : Gl) (p0 : (Option Nat)) (p1 : Int32) : Cn g m_X13_byteAt eI [vA p0, vI p1] (mCk 11 p0 (f_X13_byteAt p0 p1)) := cn_of_sn (by decide +kernel) rfl (fun r => ⟨r, rfl⟩) rfl (fun _ _ => sn_ck (s_X13_byteAt p0 p1))
