/-! X13_isLetter -/
def f_X13_isLetter (p0 : Int32) : Mo Int32 :=
  (if p0 < (97 : Int32) then mRt (0 : Int32) else (if p0 > (122 : Int32) then mRt (0 : Int32) else mRt (1 : Int32)))
set_option maxRecDepth 100000 in
theorem s_X13_isLetter {cx : CX} (p0 : Int32) : Sn cx m_X13_isLetter eI 0 [(0, vI p0)] [] (f_X13_isLetter p0) := by
  refine sn_iload_n (y := m_X13_isLetter) (pc := 0) dX13_isLetter_0 rfl ?_
  refine sn_bipush (y := m_X13_isLetter) (pc := 1) dX13_isLetter_1 kc_bipush_97 ?_
  refine sn_icmp_lt (y := m_X13_isLetter) (pc := 3) (tgt := 16) dX13_isLetter_3 (by decide) (fun _ => ?_) (fun _ => ?_)
  · refine sn_iconst (y := m_X13_isLetter) (pc := 16) dX13_isLetter_16 kc_iconst_0 ?_
    exact sn_zreturnC (by decide) rfl dX13_isLetter_17
  refine sn_iload_n (y := m_X13_isLetter) (pc := 6) dX13_isLetter_6 rfl ?_
  refine sn_bipush (y := m_X13_isLetter) (pc := 7) dX13_isLetter_7 kc_bipush_122 ?_
  refine sn_icmp_gt (y := m_X13_isLetter) (pc := 9) (tgt := 16) dX13_isLetter_9 (by decide) (fun _ => ?_) (fun _ => ?_)
  · refine sn_iconst (y := m_X13_isLetter) (pc := 16) dX13_isLetter_16 kc_iconst_0 ?_
    exact sn_zreturnC (by decide) rfl dX13_isLetter_17
  refine sn_iconst (y := m_X13_isLetter) (pc := 12) dX13_isLetter_12 kc_iconst_1 ?_
  refine sn_goto (y := m_X13_isLetter) (pc := 13) (tgt := 17) dX13_isLetter_13 (by decide) ?_
  exact sn_zreturnC (by decide) rfl dX13_isLetter_17
set_option maxRecDepth 100000 in
theorem c_X13_isLetter (g : Gl) (p0 : Int32) : Cn g m_X13_isLetter eI [vI p0] (f_X13_isLetter p0) := cn_of_sn (by decide +kernel) rfl (fun r => ⟨r, rfl⟩) rfl (fun _ _ => s_X13_isLetter p0)
/-! X13_isDigit -/
def f_X13_isDigit (p0 : Int32) : Mo Int32 :=
  (if p0 < (48 : Int32) then mRt (0 : Int32) else (if p0 > (57 : Int32) then mRt (0 : Int32) else mRt (1 : Int32)))
set_option maxRecDepth 100000 in
theorem s_X13_isDigit {cx : CX} (p0 : Int32) : Sn cx m_X13_isDigit eI 0 [(0, vI p0)] [] (f_X13_isDigit p0) := by
  refine sn_iload_n (y := m_X13_isDigit) (pc := 0) dX13_isDigit_0 rfl ?_
  refine sn_bipush (y := m_X13_isDigit) (pc := 1) dX13_isDigit_1 kc_bipush_48 ?_
  refine sn_icmp_lt (y := m_X13_isDigit) (pc := 3) (tgt := 16) dX13_isDigit_3 (by decide) (fun _ => ?_) (fun _ => ?_)
  · refine sn_iconst (y := m_X13_isDigit) (pc := 16) dX13_isDigit_16 kc_iconst_0 ?_
    exact sn_zreturnC (by decide) rfl dX13_isDigit_17
  refine sn_iload_n (y := m_X13_isDigit) (pc := 6) dX13_isDigit_6 rfl ?_
  refine sn_bipush (y := m_X13_isDigit) (pc := 7) dX13_isDigit_7 kc_bipush_57 ?_
  refine sn_icmp_gt (y := m_X13_isDigit) (pc := 9) (tgt := 16) dX13_isDigit_9 (by decide) (fun _ => ?_) (fun _ => ?_)
  · refine sn_iconst (y := m_X13_isDigit) (pc := 16) dX13_isDigit_16 kc_iconst_0 ?_
    exact sn_zreturnC (by decide) rfl dX13_isDigit_17
  refine sn_iconst (y := m_X13_isDigit) (pc := 12) dX13_isDigit_12 kc_iconst_1 ?_
  refine sn_goto (y := m_X13_isDigit) (pc := 13) (tgt := 17) dX13_isDigit_13 (by decide) ?_
  exact sn_zreturnC (by decide) rfl dX13_isDigit_17
set_option maxRecDepth 100000 in
theorem c_X13_isDigit (g : Gl) (p0 : Int32) : Cn g m_X13_isDigit eI [vI p0] (f_X13_isDigit p0) := cn_of_sn (by decide +kernel) rfl (fun r => ⟨r, rfl⟩) rfl (fun _ _ => s_X13_isDigit p0)
/-! X13_wordOf -/
def f_X13_wordOf_b4 (x0 : (Option Nat)) (k4 : Int64 → Int32 → Mo Int64) (x1 : Int64) (x3 : Int32) : Mo Int64 :=
  mBd (mCkS x0 (f_J0_length_8abf5 x0)) (fun r1 => (if x3 ≥ r1 then mRt x1 else mBd (mCkS x0 (f_J0_charAt_5068e x0 x3)) (fun r2 => mNm (((32 : Int64) * x1) + (((r2 - (97 : Int32)) + (1 : Int32)).toInt64)) (fun n3 => k4 n3 (x3 + 1)))))
def f_X13_wordOf_l4 (x0 : (Option Nat)) : Int64 → Int32 → Mo Int64 := lq2 (f_X13_wordOf_b4 x0) fuel
set_option maxRecDepth 100000 in
theorem s_X13_wordOf_b4 {cx : CX} (x0 : (Option Nat)) {k4 : Int64 → Int32 → Mo Int64} (hk4 : ∀ (z1 : Int64) (z3 : Int32), Sn cx m_X13_wordOf eJ 4 [(1, vJ z1), (3, vI z3), (0, vA x0)] [] (k4 z1 z3)) (x1 : Int64) (x3 : Int32) : Sn cx m_X13_wordOf eJ 4 [(1, vJ x1), (3, vI x3), (0, vA x0)] [] (f_X13_wordOf_b4 x0 k4 x1 x3) := by
  refine sn_iload_n (y := m_X13_wordOf) (pc := 4) dX13_wordOf_4 rfl ?_
  refine sn_aload_n (y := m_X13_wordOf) (pc := 5) dX13_wordOf_5 rfl ?_
  refine sn_invStr (y := m_X13_wordOf) (pc := 6) (av := []) (o := x0) (st := [vI x3]) dX13_wordOf_6 lk_X13_99 im_J0_length_8abf5 se_J0_length_8abf5 rfl rfl rfl rfl ⟨by decide, by decide⟩ (c_J0_length_8abf5 cx.1 x0) (fun r1 => ?_)
  refine sn_icmp_ge (y := m_X13_wordOf) (pc := 9) (tgt := 36) dX13_wordOf_9 (by decide) (fun _ => ?_) (fun _ => ?_)
  · refine sn_lload_n (y := m_X13_wordOf) (pc := 36) dX13_wordOf_36 rfl ?_
    exact sn_lreturn rfl dX13_wordOf_37
  refine sn_ldcJ (y := m_X13_wordOf) (pc := 12) kj_X13_105 dX13_wordOf_12 ?_
  refine sn_lload_n (y := m_X13_wordOf) (pc := 15) dX13_wordOf_15 rfl ?_
  refine sn_lmul (y := m_X13_wordOf) (pc := 16) dX13_wordOf_16 ?_
  refine sn_aload_n (y := m_X13_wordOf) (pc := 17) dX13_wordOf_17 rfl ?_
  refine sn_iload_n (y := m_X13_wordOf) (pc := 18) dX13_wordOf_18 rfl ?_
  refine sn_invStr (y := m_X13_wordOf) (pc := 19) (av := [vI x3]) (o := x0) (st := [vJ ((32 : Int64) * x1)]) dX13_wordOf_19 lk_X13_107 im_J0_charAt_5068e se_J0_charAt_5068e rfl rfl rfl rfl ⟨by decide, by decide⟩ (c_J0_charAt_5068e cx.1 x0 x3) (fun r2 => ?_)
  refine sn_bipush (y := m_X13_wordOf) (pc := 22) dX13_wordOf_22 kc_bipush_97 ?_
  refine sn_isub (y := m_X13_wordOf) (pc := 24) dX13_wordOf_24 ?_
  refine sn_iconst (y := m_X13_wordOf) (pc := 25) dX13_wordOf_25 kc_iconst_1 ?_
  refine sn_iadd (y := m_X13_wordOf) (pc := 26) dX13_wordOf_26 ?_
  refine sn_i2l (y := m_X13_wordOf) (pc := 27) dX13_wordOf_27 ?_
  refine sn_ladd (y := m_X13_wordOf) (pc := 28) dX13_wordOf_28 ?_
  refine sn_lstore_nM (y := m_X13_wordOf) (pc := 29) dX13_wordOf_29 rfl (fun n3 => ?_)
  refine sn_iinc (y := m_X13_wordOf) (pc := 30) (v := x3 + 1) dX13_wordOf_30 rfl (by rfl) rfl ?_
  refine sn_goto (y := m_X13_wordOf) (pc := 33) (tgt := 4) dX13_wordOf_33 (by decide) ?_
  exact sn_sub rfl (hk4 n3 (x3 + 1))
set_option maxRecDepth 100000 in
theorem s_X13_wordOf_l4 {cx : CX} (x0 : (Option Nat)) (x1 : Int64) (x3 : Int32) : Sn cx m_X13_wordOf eJ 4 [(1, vJ x1), (3, vI x3), (0, vA x0)] [] (f_X13_wordOf_l4 x0 x1 x3) :=
  sn_lq2 (L := fun x1 x3 => [(1, vJ x1), (3, vI x3), (0, vA x0)]) (fun k hk x1 x3 => s_X13_wordOf_b4 x0 hk x1 x3) fuel x1 x3
def f_X13_wordOf (p0 : (Option Nat)) : Mo Int64 :=
  f_X13_wordOf_l4 p0 (0 : Int64) (0 : Int32)
set_option maxRecDepth 100000 in
theorem s_X13_wordOf {cx : CX} (p0 : (Option Nat)) : Sn cx m_X13_wordOf eJ 0 [(0, vA p0)] [] (f_X13_wordOf p0) := by
  refine sn_lconst (y := m_X13_wordOf) (pc := 0) dX13_wordOf_0 kc_lconst_0 ?_
  refine sn_lstore_n (y := m_X13_wordOf) (pc := 1) dX13_wordOf_1 rfl ?_
  refine sn_iconst (y := m_X13_wordOf) (pc := 2) dX13_wordOf_2 kc_iconst_0 ?_
  refine sn_istore_n (y := m_X13_wordOf) (pc := 3) dX13_wordOf_3 rfl ?_
  exact sn_sub rfl (s_X13_wordOf_l4 p0 (0 : Int64) (0 : Int32))
set_option maxRecDepth 100000 in
theorem c_X13_wordOf (g : Gl) (p0 : (Option Nat)) : Cn g m_X13_wordOf eJ [vA p0] (f_X13_wordOf p0) := cn_of_sn (by decide +kernel) rfl (fun r => ⟨r, rfl⟩) rfl (fun _ _ => s_X13_wordOf p0)
/-! X13_goesOn -/
def f_X13_goesOn_j291 (x0 : (Option Nat)) (x1 : Int32) : Mo Unit :=
  mBd (mPutI 11 11 x0 (4 : Int32)) (fun _ => mBd (mPutI 11 13 x0 x1) (fun _ => mBd (mGetI 11 10 x0) (fun r9 => mBd (mPutI 11 10 x0 (r9 + (1 : Int32))) (fun _ => mRt ()))))
set_option maxRecDepth 100000 in
theorem s_X13_goesOn_j291 {cx : CX} (x0 : (Option Nat)) (x1 : Int32) : Sn cx m_X13_goesOn eV 291 [(0, vA x0), (1, vI x1)] [] (f_X13_goesOn_j291 x0 x1) := by
  refine sn_aload_n (y := m_X13_goesOn) (pc := 291) dX13_goesOn_291 rfl ?_
  refine sn_iconst (y := m_X13_goesOn) (pc := 292) dX13_goesOn_292 kc_iconst_4 ?_
  refine sn_putI (y := m_X13_goesOn) (pc := 293) ca_11 rfl fk_X13_111 (Or.inl rfl) rfl dX13_goesOn_293 ?_
  refine sn_aload_n (y := m_X13_goesOn) (pc := 296) dX13_goesOn_296 rfl ?_
  refine sn_iload_n (y := m_X13_goesOn) (pc := 297) dX13_goesOn_297 rfl ?_
  refine sn_putI (y := m_X13_goesOn) (pc := 298) ca_11 rfl fk_X13_123 (Or.inl rfl) rfl dX13_goesOn_298 ?_
  refine sn_aload_n (y := m_X13_goesOn) (pc := 301) dX13_goesOn_301 rfl ?_
  refine sn_dup (y := m_X13_goesOn) (pc := 302) rfl dX13_goesOn_302 ?_
  refine sn_getI (y := m_X13_goesOn) (pc := 303) ca_11 rfl fk_X13_114 (fun _ _ _ => rfl) dX13_goesOn_303 (fun r9 => ?_)
  refine sn_iconst (y := m_X13_goesOn) (pc := 306) dX13_goesOn_306 kc_iconst_1 ?_
  refine sn_iadd (y := m_X13_goesOn) (pc := 307) dX13_goesOn_307 ?_
  refine sn_putI (y := m_X13_goesOn) (pc := 308) ca_11 rfl fk_X13_114 (Or.inl rfl) rfl dX13_goesOn_308 ?_
  exact sn_return rfl dX13_goesOn_311
def f_X13_goesOn_j220 (k178 : Int32 → Mo Unit) (x0 : (Option Nat)) (x2 : Int32) : Mo Unit :=
  mBd (mGetI 11 10 x0) (fun r13 => mBd (mPutI 11 10 x0 (r13 + (1 : Int32))) (fun _ => k178 (x2 + 1)))
set_option maxRecDepth 100000 in
theorem s_X13_goesOn_j220 {cx : CX} {k178 : Int32 → Mo Unit} (x0 : (Option Nat)) (x2 : Int32) (hk178 : ∀ (z2 : Int32), Sn cx m_X13_goesOn eV 178 [(2, vI z2), (0, vA x0)] [] (k178 z2)) : Sn cx m_X13_goesOn eV 220 [(0, vA x0), (2, vI x2)] [] (f_X13_goesOn_j220 k178 x0 x2) := by
  refine sn_iinc (y := m_X13_goesOn) (pc := 220) (v := x2 + 1) dX13_goesOn_220 rfl (by rfl) rfl ?_
  refine sn_aload_n (y := m_X13_goesOn) (pc := 223) dX13_goesOn_223 rfl ?_
  refine sn_dup (y := m_X13_goesOn) (pc := 224) rfl dX13_goesOn_224 ?_
  refine sn_getI (y := m_X13_goesOn) (pc := 225) ca_11 rfl fk_X13_114 (fun _ _ _ => rfl) dX13_goesOn_225 (fun r13 => ?_)
  refine sn_iconst (y := m_X13_goesOn) (pc := 228) dX13_goesOn_228 kc_iconst_1 ?_
  refine sn_iadd (y := m_X13_goesOn) (pc := 229) dX13_goesOn_229 ?_
  refine sn_putI (y := m_X13_goesOn) (pc := 230) ca_11 rfl fk_X13_114 (Or.inl rfl) rfl dX13_goesOn_230 ?_
  refine sn_goto (y := m_X13_goesOn) (pc := 233) (tgt := 178) dX13_goesOn_233 (by decide) ?_
  exact sn_sub rfl (hk178 (x2 + 1))
def f_X13_goesOn_b178 (x0 : (Option Nat)) (k178 : Int32 → Mo Unit) (x2 : Int32) : Mo Unit :=
  mBd (mGetI 11 10 x0) (fun r10 => mBd (mCk 11 x0 (f_X13_byteAt x0 r10)) (fun r11 => mBd (f_X13_isDigit r11) (fun r12 => (if r12 = 0 then (if x2 > (3 : Int32) then mRt () else mBd (mPutI 11 11 x0 (3 : Int32)) (fun _ => mRt ())) else (if x2 ≥ (3 : Int32) then f_X13_goesOn_j220 k178 x0 x2 else mBd (mGetI 11 14 x0) (fun r14 => mBd (mGetI 11 10 x0) (fun r15 => mBd (mCk 11 x0 (f_X13_byteAt x0 r15)) (fun r16 => mBd (mPutI 11 14 x0 ((((10 : Int32) * r14) + r16) - (48 : Int32))) (fun _ => f_X13_goesOn_j220 k178 x0 x2)))))))))
def f_X13_goesOn_l178 (x0 : (Option Nat)) : Int32 → Mo Unit := lq1 (f_X13_goesOn_b178 x0) fuel
set_option maxRecDepth 100000 in
theorem s_X13_goesOn_b178 {cx : CX} (x0 : (Option Nat)) {k178 : Int32 → Mo Unit} (hk178 : ∀ (z2 : Int32), Sn cx m_X13_goesOn eV 178 [(2, vI z2), (0, vA x0)] [] (k178 z2)) (x2 : Int32) : Sn cx m_X13_goesOn eV 178 [(2, vI x2), (0, vA x0)] [] (f_X13_goesOn_b178 x0 k178 x2) := by
  refine sn_aload_n (y := m_X13_goesOn) (pc := 178) dX13_goesOn_178 rfl ?_
  refine sn_aload_n (y := m_X13_goesOn) (pc := 179) dX13_goesOn_179 rfl ?_
  refine sn_getI (y := m_X13_goesOn) (pc := 180) ca_11 rfl fk_X13_114 (fun _ _ _ => rfl) dX13_goesOn_180 (fun r10 => ?_)
  refine sn_invV (y := m_X13_goesOn) (pc := 183) ca_11 (av := [vI r10]) (o := x0) (st := []) dX13_goesOn_183 lk_X13_117 im_X13_byteAt se_X13_byteAt rfl rfl rfl rfl ⟨by decide, by decide⟩ (c_X13_byteAt cx.1 x0 r10) (fun r11 => ?_)
  refine sn_invS (y := m_X13_goesOn) (pc := 186) (av := [vI r11]) (st := []) dX13_goesOn_186 lk_X13_134 sw_X13_isDigit rfl rfl rfl ⟨by decide, by decide⟩ (c_X13_isDigit cx.1 r11) (fun r12 => ?_)
  refine sn_if_eq (y := m_X13_goesOn) (pc := 189) (tgt := 236) dX13_goesOn_189 (by decide) (fun _ => ?_) (fun _ => ?_)
  · refine sn_iload_n (y := m_X13_goesOn) (pc := 236) dX13_goesOn_236 rfl ?_
    refine sn_iconst (y := m_X13_goesOn) (pc := 237) dX13_goesOn_237 kc_iconst_3 ?_
    refine sn_icmp_gt (y := m_X13_goesOn) (pc := 238) (tgt := 311) dX13_goesOn_238 (by decide) (fun _ => ?_) (fun _ => ?_)
    · exact sn_return rfl dX13_goesOn_311
    refine sn_aload_n (y := m_X13_goesOn) (pc := 241) dX13_goesOn_241 rfl ?_
    refine sn_iconst (y := m_X13_goesOn) (pc := 242) dX13_goesOn_242 kc_iconst_3 ?_
    refine sn_putI (y := m_X13_goesOn) (pc := 243) ca_11 rfl fk_X13_111 (Or.inl rfl) rfl dX13_goesOn_243 ?_
    refine sn_goto (y := m_X13_goesOn) (pc := 246) (tgt := 311) dX13_goesOn_246 (by decide) ?_
    exact sn_return rfl dX13_goesOn_311
  refine sn_iload_n (y := m_X13_goesOn) (pc := 192) dX13_goesOn_192 rfl ?_
  refine sn_iconst (y := m_X13_goesOn) (pc := 193) dX13_goesOn_193 kc_iconst_3 ?_
  refine sn_icmp_ge (y := m_X13_goesOn) (pc := 194) (tgt := 220) dX13_goesOn_194 (by decide) (fun _ => ?_) (fun _ => ?_)
  · exact sn_sub rfl (s_X13_goesOn_j220 x0 x2 hk178)
  refine sn_aload_n (y := m_X13_goesOn) (pc := 197) dX13_goesOn_197 rfl ?_
  refine sn_bipush (y := m_X13_goesOn) (pc := 198) dX13_goesOn_198 kc_bipush_10 ?_
  refine sn_aload_n (y := m_X13_goesOn) (pc := 200) dX13_goesOn_200 rfl ?_
  refine sn_getI (y := m_X13_goesOn) (pc := 201) ca_11 rfl fk_X13_137 (fun _ _ _ => rfl) dX13_goesOn_201 (fun r14 => ?_)
  refine sn_imul (y := m_X13_goesOn) (pc := 204) dX13_goesOn_204 ?_
  refine sn_aload_n (y := m_X13_goesOn) (pc := 205) dX13_goesOn_205 rfl ?_
  refine sn_aload_n (y := m_X13_goesOn) (pc := 206) dX13_goesOn_206 rfl ?_
  refine sn_getI (y := m_X13_goesOn) (pc := 207) ca_11 rfl fk_X13_114 (fun _ _ _ => rfl) dX13_goesOn_207 (fun r15 => ?_)
  refine sn_invV (y := m_X13_goesOn) (pc := 210) ca_11 (av := [vI r15]) (o := x0) (st := [vI ((10 : Int32) * r14), vA x0]) dX13_goesOn_210 lk_X13_117 im_X13_byteAt se_X13_byteAt rfl rfl rfl rfl ⟨by decide, by decide⟩ (c_X13_byteAt cx.1 x0 r15) (fun r16 => ?_)
  refine sn_iadd (y := m_X13_goesOn) (pc := 213) dX13_goesOn_213 ?_
  refine sn_bipush (y := m_X13_goesOn) (pc := 214) dX13_goesOn_214 kc_bipush_48 ?_
  refine sn_isub (y := m_X13_goesOn) (pc := 216) dX13_goesOn_216 ?_
  refine sn_putI (y := m_X13_goesOn) (pc := 217) ca_11 rfl fk_X13_137 (Or.inl rfl) rfl dX13_goesOn_217 ?_
  exact sn_sub rfl (s_X13_goesOn_j220 x0 x2 hk178)
set_option maxRecDepth 100000 in
theorem s_X13_goesOn_l178 {cx : CX} (x0 : (Option Nat)) (x2 : Int32) : Sn cx m_X13_goesOn eV 178 [(2, vI x2), (0, vA x0)] [] (f_X13_goesOn_l178 x0 x2) :=
  sn_lq1 (L := fun x2 => [(2, vI x2), (0, vA x0)]) (fun k hk x2 => s_X13_goesOn_b178 x0 hk x2) fuel x2
def f_X13_goesOn_j136 (k89 : Int32 → Mo Unit) (x0 : (Option Nat)) (x2 : Int32) : Mo Unit :=
  mBd (mGetI 11 10 x0) (fun r20 => mBd (mPutI 11 10 x0 (r20 + (1 : Int32))) (fun _ => k89 (x2 + 1)))
set_option maxRecDepth 100000 in
theorem s_X13_goesOn_j136 {cx : CX} {k89 : Int32 → Mo Unit} (x0 : (Option Nat)) (x2 : Int32) (hk89 : ∀ (z2 : Int32), Sn cx m_X13_goesOn eV 89 [(2, vI z2), (0, vA x0)] [] (k89 z2)) : Sn cx m_X13_goesOn eV 136 [(0, vA x0), (2, vI x2)] [] (f_X13_goesOn_j136 k89 x0 x2) := by
  refine sn_iinc (y := m_X13_goesOn) (pc := 136) (v := x2 + 1) dX13_goesOn_136 rfl (by rfl) rfl ?_
  refine sn_aload_n (y := m_X13_goesOn) (pc := 139) dX13_goesOn_139 rfl ?_
  refine sn_dup (y := m_X13_goesOn) (pc := 140) rfl dX13_goesOn_140 ?_
  refine sn_getI (y := m_X13_goesOn) (pc := 141) ca_11 rfl fk_X13_114 (fun _ _ _ => rfl) dX13_goesOn_141 (fun r20 => ?_)
  refine sn_iconst (y := m_X13_goesOn) (pc := 144) dX13_goesOn_144 kc_iconst_1 ?_
  refine sn_iadd (y := m_X13_goesOn) (pc := 145) dX13_goesOn_145 ?_
  refine sn_putI (y := m_X13_goesOn) (pc := 146) ca_11 rfl fk_X13_114 (Or.inl rfl) rfl dX13_goesOn_146 ?_
  refine sn_goto (y := m_X13_goesOn) (pc := 149) (tgt := 89) dX13_goesOn_149 (by decide) ?_
  exact sn_sub rfl (hk89 (x2 + 1))
def f_X13_goesOn_b89 (x0 : (Option Nat)) (k89 : Int32 → Mo Unit) (x2 : Int32) : Mo Unit :=
  mBd (mGetI 11 10 x0) (fun r17 => mBd (mCk 11 x0 (f_X13_byteAt x0 r17)) (fun r18 => mBd (f_X13_isLetter r18) (fun r19 => (if r19 = 0 then (if x2 > (8 : Int32) then mRt () else mBd (mPutI 11 11 x0 (2 : Int32)) (fun _ => mRt ())) else (if x2 ≥ (8 : Int32) then f_X13_goesOn_j136 k89 x0 x2 else mBd (mGetJ 11 17 x0) (fun r21 => mBd (mGetI 11 10 x0) (fun r22 => mBd (mCk 11 x0 (f_X13_byteAt x0 r22)) (fun r23 => mBd (mPutJ 11 17 x0 (((32 : Int64) * r21) + (((r23 - (97 : Int32)) + (1 : Int32)).toInt64))) (fun _ => f_X13_goesOn_j136 k89 x0 x2)))))))))
def f_X13_goesOn_l89 (x0 : (Option Nat)) : Int32 → Mo Unit := lq1 (f_X13_goesOn_b89 x0) fuel
set_option maxRecDepth 100000 in
theorem s_X13_goesOn_b89 {cx : CX} (x0 : (Option Nat)) {k89 : Int32 → Mo Unit} (hk89 : ∀ (z2 : Int32), Sn cx m_X13_goesOn eV 89 [(2, vI z2), (0, vA x0)] [] (k89 z2)) (x2 : Int32) : Sn cx m_X13_goesOn eV 89 [(2, vI x2), (0, vA x0)] [] (f_X13_goesOn_b89 x0 k89 x2) := by
  refine sn_aload_n (y := m_X13_goesOn) (pc := 89) dX13_goesOn_89 rfl ?_
  refine sn_aload_n (y := m_X13_goesOn) (pc := 90) dX13_goesOn_90 rfl ?_
  refine sn_getI (y := m_X13_goesOn) (pc := 91) ca_11 rfl fk_X13_114 (fun _ _ _ => rfl) dX13_goesOn_91 (fun r17 => ?_)
  refine sn_invV (y := m_X13_goesOn) (pc := 94) ca_11 (av := [vI r17]) (o := x0) (st := []) dX13_goesOn_94 lk_X13_117 im_X13_byteAt se_X13_byteAt rfl rfl rfl rfl ⟨by decide, by decide⟩ (c_X13_byteAt cx.1 x0 r17) (fun r18 => ?_)
  refine sn_invS (y := m_X13_goesOn) (pc := 97) (av := [vI r18]) (st := []) dX13_goesOn_97 lk_X13_126 sw_X13_isLetter rfl rfl rfl ⟨by decide, by decide⟩ (c_X13_isLetter cx.1 r18) (fun r19 => ?_)
  refine sn_if_eq (y := m_X13_goesOn) (pc := 100) (tgt := 152) dX13_goesOn_100 (by decide) (fun _ => ?_) (fun _ => ?_)
  · refine sn_iload_n (y := m_X13_goesOn) (pc := 152) dX13_goesOn_152 rfl ?_
    refine sn_bipush (y := m_X13_goesOn) (pc := 153) dX13_goesOn_153 kc_bipush_8 ?_
    refine sn_icmp_gt (y := m_X13_goesOn) (pc := 155) (tgt := 311) dX13_goesOn_155 (by decide) (fun _ => ?_) (fun _ => ?_)
    · exact sn_return rfl dX13_goesOn_311
    refine sn_aload_n (y := m_X13_goesOn) (pc := 158) dX13_goesOn_158 rfl ?_
    refine sn_iconst (y := m_X13_goesOn) (pc := 159) dX13_goesOn_159 kc_iconst_2 ?_
    refine sn_putI (y := m_X13_goesOn) (pc := 160) ca_11 rfl fk_X13_111 (Or.inl rfl) rfl dX13_goesOn_160 ?_
    refine sn_goto (y := m_X13_goesOn) (pc := 163) (tgt := 311) dX13_goesOn_163 (by decide) ?_
    exact sn_return rfl dX13_goesOn_311
  refine sn_iload_n (y := m_X13_goesOn) (pc := 103) dX13_goesOn_103 rfl ?_
  refine sn_bipush (y := m_X13_goesOn) (pc := 104) dX13_goesOn_104 kc_bipush_8 ?_
  refine sn_icmp_ge (y := m_X13_goesOn) (pc := 106) (tgt := 136) dX13_goesOn_106 (by decide) (fun _ => ?_) (fun _ => ?_)
  · exact sn_sub rfl (s_X13_goesOn_j136 x0 x2 hk89)
  refine sn_aload_n (y := m_X13_goesOn) (pc := 109) dX13_goesOn_109 rfl ?_
  refine sn_ldcJ (y := m_X13_goesOn) (pc := 110) kj_X13_105 dX13_goesOn_110 ?_
  refine sn_aload_n (y := m_X13_goesOn) (pc := 113) dX13_goesOn_113 rfl ?_
  refine sn_getJ (y := m_X13_goesOn) (pc := 114) ca_11 rfl fk_X13_130 (fun _ _ _ => rfl) dX13_goesOn_114 (fun r21 => ?_)
  refine sn_lmul (y := m_X13_goesOn) (pc := 117) dX13_goesOn_117 ?_
  refine sn_aload_n (y := m_X13_goesOn) (pc := 118) dX13_goesOn_118 rfl ?_
  refine sn_aload_n (y := m_X13_goesOn) (pc := 119) dX13_goesOn_119 rfl ?_
  refine sn_getI (y := m_X13_goesOn) (pc := 120) ca_11 rfl fk_X13_114 (fun _ _ _ => rfl) dX13_goesOn_120 (fun r22 => ?_)
  refine sn_invV (y := m_X13_goesOn) (pc := 123) ca_11 (av := [vI r22]) (o := x0) (st := [vJ ((32 : Int64) * r21), vA x0]) dX13_goesOn_123 lk_X13_117 im_X13_byteAt se_X13_byteAt rfl rfl rfl rfl ⟨by decide, by decide⟩ (c_X13_byteAt cx.1 x0 r22) (fun r23 => ?_)
  refine sn_bipush (y := m_X13_goesOn) (pc := 126) dX13_goesOn_126 kc_bipush_97 ?_
  refine sn_isub (y := m_X13_goesOn) (pc := 128) dX13_goesOn_128 ?_
  refine sn_iconst (y := m_X13_goesOn) (pc := 129) dX13_goesOn_129 kc_iconst_1 ?_
  refine sn_iadd (y := m_X13_goesOn) (pc := 130) dX13_goesOn_130 ?_
  refine sn_i2l (y := m_X13_goesOn) (pc := 131) dX13_goesOn_131 ?_
  refine sn_ladd (y := m_X13_goesOn) (pc := 132) dX13_goesOn_132 ?_
  refine sn_putJ (y := m_X13_goesOn) (pc := 133) ca_11 rfl fk_X13_130 (Or.inl rfl) rfl dX13_goesOn_133 ?_
  exact sn_sub rfl (s_X13_goesOn_j136 x0 x2 hk89)
set_option maxRecDepth 100000 in
theorem s_X13_goesOn_l89 {cx : CX} (x0 : (Option Nat)) (x2 : Int32) : Sn cx m_X13_goesOn eV 89 [(2, vI x2), (0, vA x0)] [] (f_X13_goesOn_l89 x0 x2) :=
  sn_lq1 (L := fun x2 => [(2, vI x2), (0, vA x0)]) (fun k hk x2 => s_X13_goesOn_b89 x0 hk x2) fuel x2
def f_X13_goesOn_b9 (x0 : (Option Nat)) (k9 : Mo Unit) : Mo Unit :=
  mBd (mGetI 11 10 x0) (fun r2 => mBd (mCk 11 x0 (f_X13_byteAt x0 r2)) (fun r3 => (if ¬ r3 = (32 : Int32) then mBd (mGetI 11 10 x0) (fun r4 => mBd (mPutI 11 12 x0 r4) (fun _ => mBd (mPutI 11 11 x0 (0 : Int32)) (fun _ => mBd (mPutI 11 13 x0 (0 : Int32)) (fun _ => mBd (mGetI 11 10 x0) (fun r5 => mBd (mCk 11 x0 (f_X13_byteAt x0 r5)) (fun r6 => (if ¬ r6 = (-1 : Int32) then mBd (f_X13_isLetter r6) (fun r7 => (if r7 = 0 then mBd (f_X13_isDigit r6) (fun r8 => (if r8 = 0 then (if r6 = (59 : Int32) then f_X13_goesOn_j291 x0 r6 else (if r6 = (44 : Int32) then f_X13_goesOn_j291 x0 r6 else (if r6 = (43 : Int32) then f_X13_goesOn_j291 x0 r6 else (if r6 = (45 : Int32) then f_X13_goesOn_j291 x0 r6 else (if r6 = (42 : Int32) then f_X13_goesOn_j291 x0 r6 else (if r6 = (40 : Int32) then f_X13_goesOn_j291 x0 r6 else (if ¬ r6 = (41 : Int32) then mRt () else f_X13_goesOn_j291 x0 r6))))))) else mBd (mPutI 11 14 x0 (0 : Int32)) (fun _ => f_X13_goesOn_l178 x0 (0 : Int32)))) else mBd (mPutJ 11 17 x0 (0 : Int64)) (fun _ => f_X13_goesOn_l89 x0 (0 : Int32)))) else mBd (mPutI 11 11 x0 (1 : Int32)) (fun _ => mRt ())))))))) else mBd (mGetI 11 10 x0) (fun r24 => mBd (mPutI 11 10 x0 (r24 + (1 : Int32))) (fun _ => k9)))))
def f_X13_goesOn_l9 (x0 : (Option Nat)) : Mo Unit := lq0 (f_X13_goesOn_b9 x0) fuel
set_option maxRecDepth 100000 in
theorem s_X13_goesOn_b9 {cx : CX} (x0 : (Option Nat)) {k9 : Mo Unit} (hk9 : Sn cx m_X13_goesOn eV 9 [(0, vA x0)] [] (k9)) : Sn cx m_X13_goesOn eV 9 [(0, vA x0)] [] (f_X13_goesOn_b9 x0 k9) := by
  refine sn_aload_n (y := m_X13_goesOn) (pc := 9) dX13_goesOn_9 rfl ?_
  refine sn_aload_n (y := m_X13_goesOn) (pc := 10) dX13_goesOn_10 rfl ?_
  refine sn_getI (y := m_X13_goesOn) (pc := 11) ca_11 rfl fk_X13_114 (fun _ _ _ => rfl) dX13_goesOn_11 (fun r2 => ?_)
  refine sn_invV (y := m_X13_goesOn) (pc := 14) ca_11 (av := [vI r2]) (o := x0) (st := []) dX13_goesOn_14 lk_X13_117 im_X13_byteAt se_X13_byteAt rfl rfl rfl rfl ⟨by decide, by decide⟩ (c_X13_byteAt cx.1 x0 r2) (fun r3 => ?_)
  refine sn_bipush (y := m_X13_goesOn) (pc := 17) dX13_goesOn_17 kc_bipush_32 ?_
  refine sn_icmp_ne (y := m_X13_goesOn) (pc := 19) (tgt := 35) dX13_goesOn_19 (by decide) (fun _ => ?_) (fun _ => ?_)
  · refine sn_aload_n (y := m_X13_goesOn) (pc := 35) dX13_goesOn_35 rfl ?_
    refine sn_aload_n (y := m_X13_goesOn) (pc := 36) dX13_goesOn_36 rfl ?_
    refine sn_getI (y := m_X13_goesOn) (pc := 37) ca_11 rfl fk_X13_114 (fun _ _ _ => rfl) dX13_goesOn_37 (fun r4 => ?_)
    refine sn_putI (y := m_X13_goesOn) (pc := 40) ca_11 rfl fk_X13_120 (Or.inl rfl) rfl dX13_goesOn_40 ?_
    refine sn_aload_n (y := m_X13_goesOn) (pc := 43) dX13_goesOn_43 rfl ?_
    refine sn_iconst (y := m_X13_goesOn) (pc := 44) dX13_goesOn_44 kc_iconst_0 ?_
    refine sn_putI (y := m_X13_goesOn) (pc := 45) ca_11 rfl fk_X13_111 (Or.inl rfl) rfl dX13_goesOn_45 ?_
    refine sn_aload_n (y := m_X13_goesOn) (pc := 48) dX13_goesOn_48 rfl ?_
    refine sn_iconst (y := m_X13_goesOn) (pc := 49) dX13_goesOn_49 kc_iconst_0 ?_
    refine sn_putI (y := m_X13_goesOn) (pc := 50) ca_11 rfl fk_X13_123 (Or.inl rfl) rfl dX13_goesOn_50 ?_
    refine sn_aload_n (y := m_X13_goesOn) (pc := 53) dX13_goesOn_53 rfl ?_
    refine sn_aload_n (y := m_X13_goesOn) (pc := 54) dX13_goesOn_54 rfl ?_
    refine sn_getI (y := m_X13_goesOn) (pc := 55) ca_11 rfl fk_X13_114 (fun _ _ _ => rfl) dX13_goesOn_55 (fun r5 => ?_)
    refine sn_invV (y := m_X13_goesOn) (pc := 58) ca_11 (av := [vI r5]) (o := x0) (st := []) dX13_goesOn_58 lk_X13_117 im_X13_byteAt se_X13_byteAt rfl rfl rfl rfl ⟨by decide, by decide⟩ (c_X13_byteAt cx.1 x0 r5) (fun r6 => ?_)
    refine sn_istore_n (y := m_X13_goesOn) (pc := 61) dX13_goesOn_61 rfl ?_
    refine sn_iconst (y := m_X13_goesOn) (pc := 62) dX13_goesOn_62 kc_iconst_0 ?_
    refine sn_istore_n (y := m_X13_goesOn) (pc := 63) dX13_goesOn_63 rfl ?_
    refine sn_iload_n (y := m_X13_goesOn) (pc := 64) dX13_goesOn_64 rfl ?_
    refine sn_iconst (y := m_X13_goesOn) (pc := 65) dX13_goesOn_65 kc_iconst_m1 ?_
    refine sn_icmp_ne (y := m_X13_goesOn) (pc := 66) (tgt := 77) dX13_goesOn_66 (by decide) (fun _ => ?_) (fun _ => ?_)
    · refine sn_iload_n (y := m_X13_goesOn) (pc := 77) dX13_goesOn_77 rfl ?_
      refine sn_invS (y := m_X13_goesOn) (pc := 78) (av := [vI r6]) (st := []) dX13_goesOn_78 lk_X13_126 sw_X13_isLetter rfl rfl rfl ⟨by decide, by decide⟩ (c_X13_isLetter cx.1 r6) (fun r7 => ?_)
      refine sn_if_eq (y := m_X13_goesOn) (pc := 81) (tgt := 166) dX13_goesOn_81 (by decide) (fun _ => ?_) (fun _ => ?_)
      · refine sn_iload_n (y := m_X13_goesOn) (pc := 166) dX13_goesOn_166 rfl ?_
        refine sn_invS (y := m_X13_goesOn) (pc := 167) (av := [vI r6]) (st := []) dX13_goesOn_167 lk_X13_134 sw_X13_isDigit rfl rfl rfl ⟨by decide, by decide⟩ (c_X13_isDigit cx.1 r6) (fun r8 => ?_)
        refine sn_if_eq (y := m_X13_goesOn) (pc := 170) (tgt := 249) dX13_goesOn_170 (by decide) (fun _ => ?_) (fun _ => ?_)
        · refine sn_iload_n (y := m_X13_goesOn) (pc := 249) dX13_goesOn_249 rfl ?_
          refine sn_bipush (y := m_X13_goesOn) (pc := 250) dX13_goesOn_250 kc_bipush_59 ?_
          refine sn_icmp_eq (y := m_X13_goesOn) (pc := 252) (tgt := 291) dX13_goesOn_252 (by decide) (fun _ => ?_) (fun _ => ?_)
          · exact sn_sub rfl (s_X13_goesOn_j291 x0 r6)
          refine sn_iload_n (y := m_X13_goesOn) (pc := 255) dX13_goesOn_255 rfl ?_
          refine sn_bipush (y := m_X13_goesOn) (pc := 256) dX13_goesOn_256 kc_bipush_44 ?_
          refine sn_icmp_eq (y := m_X13_goesOn) (pc := 258) (tgt := 291) dX13_goesOn_258 (by decide) (fun _ => ?_) (fun _ => ?_)
          · exact sn_sub rfl (s_X13_goesOn_j291 x0 r6)
          refine sn_iload_n (y := m_X13_goesOn) (pc := 261) dX13_goesOn_261 rfl ?_
          refine sn_bipush (y := m_X13_goesOn) (pc := 262) dX13_goesOn_262 kc_bipush_43 ?_
          refine sn_icmp_eq (y := m_X13_goesOn) (pc := 264) (tgt := 291) dX13_goesOn_264 (by decide) (fun _ => ?_) (fun _ => ?_)
          · exact sn_sub rfl (s_X13_goesOn_j291 x0 r6)
          refine sn_iload_n (y := m_X13_goesOn) (pc := 267) dX13_goesOn_267 rfl ?_
          refine sn_bipush (y := m_X13_goesOn) (pc := 268) dX13_goesOn_268 kc_bipush_45 ?_
          refine sn_icmp_eq (y := m_X13_goesOn) (pc := 270) (tgt := 291) dX13_goesOn_270 (by decide) (fun _ => ?_) (fun _ => ?_)
          · exact sn_sub rfl (s_X13_goesOn_j291 x0 r6)
          refine sn_iload_n (y := m_X13_goesOn) (pc := 273) dX13_goesOn_273 rfl ?_
          refine sn_bipush (y := m_X13_goesOn) (pc := 274) dX13_goesOn_274 kc_bipush_42 ?_
          refine sn_icmp_eq (y := m_X13_goesOn) (pc := 276) (tgt := 291) dX13_goesOn_276 (by decide) (fun _ => ?_) (fun _ => ?_)
          · exact sn_sub rfl (s_X13_goesOn_j291 x0 r6)
          refine sn_iload_n (y := m_X13_goesOn) (pc := 279) dX13_goesOn_279 rfl ?_
          refine sn_bipush (y := m_X13_goesOn) (pc := 280) dX13_goesOn_280 kc_bipush_40 ?_
          refine sn_icmp_eq (y := m_X13_goesOn) (pc := 282) (tgt := 291) dX13_goesOn_282 (by decide) (fun _ => ?_) (fun _ => ?_)
          · exact sn_sub rfl (s_X13_goesOn_j291 x0 r6)
          refine sn_iload_n (y := m_X13_goesOn) (pc := 285) dX13_goesOn_285 rfl ?_
          refine sn_bipush (y := m_X13_goesOn) (pc := 286) dX13_goesOn_286 kc_bipush_41 ?_
          refine sn_icmp_ne (y := m_X13_goesOn) (pc := 288) (tgt := 311) dX13_goesOn_288 (by decide) (fun _ => ?_) (fun _ => ?_)
          · exact sn_return rfl dX13_goesOn_311
          exact sn_sub rfl (s_X13_goesOn_j291 x0 r6)
        refine sn_aload_n (y := m_X13_goesOn) (pc := 173) dX13_goesOn_173 rfl ?_
        refine sn_iconst (y := m_X13_goesOn) (pc := 174) dX13_goesOn_174 kc_iconst_0 ?_
        refine sn_putI (y := m_X13_goesOn) (pc := 175) ca_11 rfl fk_X13_137 (Or.inl rfl) rfl dX13_goesOn_175 ?_
        exact sn_sub rfl (s_X13_goesOn_l178 x0 (0 : Int32))
      refine sn_aload_n (y := m_X13_goesOn) (pc := 84) dX13_goesOn_84 rfl ?_
      refine sn_lconst (y := m_X13_goesOn) (pc := 85) dX13_goesOn_85 kc_lconst_0 ?_
      refine sn_putJ (y := m_X13_goesOn) (pc := 86) ca_11 rfl fk_X13_130 (Or.inl rfl) rfl dX13_goesOn_86 ?_
      exact sn_sub rfl (s_X13_goesOn_l89 x0 (0 : Int32))
    refine sn_aload_n (y := m_X13_goesOn) (pc := 69) dX13_goesOn_69 rfl ?_
    refine sn_iconst (y := m_X13_goesOn) (pc := 70) dX13_goesOn_70 kc_iconst_1 ?_
    refine sn_putI (y := m_X13_goesOn) (pc := 71) ca_11 rfl fk_X13_111 (Or.inl rfl) rfl dX13_goesOn_71 ?_
    refine sn_goto (y := m_X13_goesOn) (pc := 74) (tgt := 311) dX13_goesOn_74 (by decide) ?_
    exact sn_return rfl dX13_goesOn_311
  refine sn_aload_n (y := m_X13_goesOn) (pc := 22) dX13_goesOn_22 rfl ?_
  refine sn_dup (y := m_X13_goesOn) (pc := 23) rfl dX13_goesOn_23 ?_
  refine sn_getI (y := m_X13_goesOn) (pc := 24) ca_11 rfl fk_X13_114 (fun _ _ _ => rfl) dX13_goesOn_24 (fun r24 => ?_)
  refine sn_iconst (y := m_X13_goesOn) (pc := 27) dX13_goesOn_27 kc_iconst_1 ?_
  refine sn_iadd (y := m_X13_goesOn) (pc := 28) dX13_goesOn_28 ?_
  refine sn_putI (y := m_X13_goesOn) (pc := 29) ca_11 rfl fk_X13_114 (Or.inl rfl) rfl dX13_goesOn_29 ?_
  refine sn_goto (y := m_X13_goesOn) (pc := 32) (tgt := 9) dX13_goesOn_32 (by decide) ?_
  exact sn_sub rfl (hk9)
set_option maxRecDepth 100000 in
theorem s_X13_goesOn_l9 {cx : CX} (x0 : (Option Nat)) : Sn cx m_X13_goesOn eV 9 [(0, vA x0)] [] (f_X13_goesOn_l9 x0) :=
  sn_lq0 (fun k hk => s_X13_goesOn_b9 x0 hk) fuel
def f_X13_goesOn (p0 : (Option Nat)) : Mo Unit :=
  mBd (mGetI 11 11 p0) (fun r1 => (if ¬ r1 = (5 : Int32) then f_X13_goesOn_l9 p0 else mRt ()))
set_option maxRecDepth 100000 in
theorem s_X13_goesOn {cx : CX} (p0 : (Option Nat)) : Sn cx m_X13_goesOn eV 0 [(0, vA p0)] [] (f_X13_goesOn p0) := by
  refine sn_aload_n (y := m_X13_goesOn) (pc := 0) dX13_goesOn_0 rfl ?_
  refine sn_getI (y := m_X13_goesOn) (pc := 1) ca_11 rfl fk_X13_111 (fun _ _ _ => rfl) dX13_goesOn_1 (fun r1 => ?_)
  refine sn_iconst (y := m_X13_goesOn) (pc := 4) dX13_goesOn_4 kc_iconst_5 ?_
  refine sn_icmp_ne (y := m_X13_goesOn) (pc := 5) (tgt := 9) dX13_goesOn_5 (by decide) (fun _ => ?_) (fun _ => ?_)
  · exact sn_sub rfl (s_X13_goesOn_l9 p0)
  exact sn_return rfl dX13_goesOn_8
set_option maxRecDepth 100000 in
theorem c_X13_goesOn (g : Gl) (p0 : (Option Nat)) : Cn g m_X13_goesOn eV [vA p0] (mCk 11 p0 (f_X13_goesOn p0)) := cn_of_sn (by decide +kernel) rfl (fun _ => rfl) rfl (fun _ _ => sn_ck (s_X13_goesOn p0))
/-! X13_wrongThere -/
def f_X13_wrongThere (p0 : (Option Nat)) (p1 : Int32) (p2 : Int32) : Mo Unit :=
  mBd (mGetI 11 11 p0) (fun r1 => (if ¬ r1 = (5 : Int32) then mBd (mPutI 11 15 p0 p1) (fun _ => mBd (mPutI 11 16 p0 p2) (fun _ => mBd (mPutI 11 11 p0 (5 : Int32)) (fun _ => mRt ()))) else mRt ()))
set_option maxRecDepth 100000 in
theorem s_X13_wrongThere {cx : CX} (p0 : (Option Nat)) (p1 : Int32) (p2 : Int32) : Sn cx m_X13_wrongThere eV 0 [(0, vA p0), (1, vI p1), (2, vI p2)] [] (f_X13_wrongThere p0 p1 p2) := by
  refine sn_aload_n (y := m_X13_wrongThere) (pc := 0) dX13_wrongThere_0 rfl ?_
  refine sn_getI (y := m_X13_wrongThere) (pc := 1) ca_11 rfl fk_X13_111 (fun _ _ _ => rfl) dX13_wrongThere_1 (fun r1 => ?_)
  refine sn_iconst (y := m_X13_wrongThere) (pc := 4) dX13_wrongThere_4 kc_iconst_5 ?_
  refine sn_icmp_ne (y := m_X13_wrongThere) (pc := 5) (tgt := 9) dX13_wrongThere_5 (by decide) (fun _ => ?_) (fun _ => ?_)
  · refine sn_aload_n (y := m_X13_wrongThere) (pc := 9) dX13_wrongThere_9 rfl ?_
    refine sn_iload_n (y := m_X13_wrongThere) (pc := 10) dX13_wrongThere_10 rfl ?_
    refine sn_putI (y := m_X13_wrongThere) (pc := 11) ca_11 rfl fk_X13_144 (Or.inl rfl) rfl dX13_wrongThere_11 ?_
    refine sn_aload_n (y := m_X13_wrongThere) (pc := 14) dX13_wrongThere_14 rfl ?_
    refine sn_iload_n (y := m_X13_wrongThere) (pc := 15) dX13_wrongThere_15 rfl ?_
    refine sn_putI (y := m_X13_wrongThere) (pc := 16) ca_11 rfl fk_X13_147 (Or.inl rfl) rfl dX13_wrongThere_16 ?_
    refine sn_aload_n (y := m_X13_wrongThere) (pc := 19) dX13_wrongThere_19 rfl ?_
    refine sn_iconst (y := m_X13_wrongThere) (pc := 20) dX13_wrongThere_20 kc_iconst_5 ?_
    refine sn_putI (y := m_X13_wrongThere) (pc := 21) ca_11 rfl fk_X13_111 (Or.inl rfl) rfl dX13_wrongThere_21 ?_
    exact sn_return rfl dX13_wrongThere_24
  exact sn_return rfl dX13_wrongThere_8
set_option maxRecDepth 100000 in
theorem c_X13_wrongThere (g : Gl) (p0 : (Option Nat)) (p1 : Int32) (p2 : Int32) : Cn g m_X13_wrongThere eV [vA p0, vI p1, vI p2] (mCk 11 p0 (f_X13_wrongThere p0 p1 p2)) := cn_of_sn (by decide +kernel) rfl (fun _ => rfl) rfl (fun _ _ => sn_ck (s_X13_wrongThere p0 p1 p2))
/-! X13_wrong -/
def f_X13_wrong (p0 : (Option Nat)) (p1 : Int32) : Mo Unit :=
  mBd (mGetI 11 12 p0) (fun r1 => mBd (mCk 11 p0 (f_X13_wrongThere p0 p1 r1)) (fun _ => mRt ()))
set_option maxRecDepth 100000 in
theorem s_X13_wrong {cx : CX} (p0 : (Option Nat)) (p1 : Int32) : Sn cx m_X13_wrong eV 0 [(0, vA p0), (1, vI p1)] [] (f_X13_wrong p0 p1) := by
  refine sn_aload_n (y := m_X13_wrong) (pc := 0) dX13_wrong_0 rfl ?_
  refine sn_iload_n (y := m_X13_wrong) (pc := 1) dX13_wrong_1 rfl ?_
  refine sn_aload_n (y := m_X13_wrong) (pc := 2) dX13_wrong_2 rfl ?_
  refine sn_getI (y := m_X13_wrong) (pc := 3) ca_11 rfl fk_X13_120 (fun _ _ _ => rfl) dX13_wrong_3 (fun r1 => ?_)
  refine sn_invV (y := m_X13_wrong) (pc := 6) ca_11 (av := [vI p1, vI r1]) (o := p0) (st := []) dX13_wrong_6 lk_X13_140 im_X13_wrongThere se_X13_wrongThere rfl rfl rfl rfl ⟨by decide, by decide⟩ (c_X13_wrongThere cx.1 p0 p1 r1) (fun _ => ?_)
  exact sn_return rfl dX13_wrong_9
set_option maxRecDepth 100000 in
theorem c_X13_wrong (g : Gl) (p0 : (Option Nat)) (p1 : Int32) : Cn g m_X13_wrong eV [vA p0, vI p1] (mCk 11 p0 (f_X13_wrong p0 p1)) := cn_of_sn (by decide +kernel) rfl (fun _ => rfl) rfl (fun _ _ => sn_ck (s_X13_wrong p0 p1))
/-! X13_isWord -/
def f_X13_isWord (p0 : (Option Nat)) (p1 : (Option Nat)) : Mo Int32 :=
  mBd (mGetI 11 11 p0) (fun r1 => (if ¬ r1 = (2 : Int32) then mRt (0 : Int32) else mBd (mGetJ 11 17 p0) (fun r2 => mBd (f_X13_wordOf p1) (fun r3 => (if ¬ r2 = r3 then mRt (0 : Int32) else mRt (1 : Int32))))))
set_option maxRecDepth 100000 in
theorem s_X13_isWord {cx : CX} (p0 : (Option Nat)) (p1 : (Option Nat)) : Sn cx m_X13_isWord eI 0 [(0, vA p0), (1, vA p1)] [] (f_X13_isWord p0 p1) := by
  refine sn_aload_n (y := m_X13_isWord) (pc := 0) dX13_isWord_0 rfl ?_
  refine sn_getI (y := m_X13_isWord) (pc := 1) ca_11 rfl fk_X13_111 (fun _ _ _ => rfl) dX13_isWord_1 (fun r1 => ?_)
  refine sn_iconst (y := m_X13_isWord) (pc := 4) dX13_isWord_4 kc_iconst_2 ?_
  refine sn_icmp_ne (y := m_X13_isWord) (pc := 5) (tgt := 24) dX13_isWord_5 (by decide) (fun _ => ?_) (fun _ => ?_)
  · refine sn_iconst (y := m_X13_isWord) (pc := 24) dX13_isWord_24 kc_iconst_0 ?_
    exact sn_zreturnC (by decide) rfl dX13_isWord_25
  refine sn_aload_n (y := m_X13_isWord) (pc := 8) dX13_isWord_8 rfl ?_
  refine sn_getJ (y := m_X13_isWord) (pc := 9) ca_11 rfl fk_X13_130 (fun _ _ _ => rfl) dX13_isWord_9 (fun r2 => ?_)
  refine sn_aload_n (y := m_X13_isWord) (pc := 12) dX13_isWord_12 rfl ?_
  refine sn_invS (y := m_X13_isWord) (pc := 13) (av := [vA p1]) (st := [vJ r2]) dX13_isWord_13 lk_X13_150 sw_X13_wordOf rfl rfl rfl ⟨by decide, by decide⟩ (c_X13_wordOf cx.1 p1) (fun r3 => ?_)
  refine sn_lc_ne (y := m_X13_isWord) (pc := 16) (tgt := 24) dX13_isWord_16 dX13_isWord_17 (by decide) (fun _ => ?_) (fun _ => ?_)
  · refine sn_iconst (y := m_X13_isWord) (pc := 24) dX13_isWord_24 kc_iconst_0 ?_
    exact sn_zreturnC (by decide) rfl dX13_isWord_25
  refine sn_iconst (y := m_X13_isWord) (pc := 20) dX13_isWord_20 kc_iconst_1 ?_
  refine sn_goto (y := m_X13_isWord) (pc := 21) (tgt := 25) dX13_isWord_21 (by decide) ?_
  exact sn_zreturnC (by decide) rfl dX13_isWord_25
set_option maxRecDepth 100000 in
theorem c_X13_isWord (g : Gl) (p0 : (Option Nat)) (p1 : (Option Nat)) : Cn g m_X13_isWord eI [vA p0, vA p1] (mCk 11 p0 (f_X13_isWord p0 p1)) := cn_of_sn (by decide +kernel) rfl (fun r => ⟨r, rfl⟩) rfl (fun _ _ => sn_ck (s_X13_isWord p0 p1))
/-! X13_isSign -/
def f_X13_isSign (p0 : (Option Nat)) (p1 : Int32) : Mo Int32 :=
  mBd (mGetI 11 11 p0) (fun r1 => (if ¬ r1 = (4 : Int32) then mRt (0 : Int32) else mBd (mGetI 11 13 p0) (fun r2 => (if ¬ r2 = p1 then mRt (0 : Int32) else mRt (1 : Int32)))))
set_option maxRecDepth 100000 in
theorem s_X13_isSign {cx : CX} (p0 : (Option Nat)) (p1 : Int32) : Sn cx m_X13_isSign eI 0 [(0, vA p0), (1, vI p1)] [] (f_X13_isSign p0 p1) := by
  refine sn_aload_n (y := m_X13_isSign) (pc := 0) dX13_isSign_0 rfl ?_
  refine sn_getI (y := m_X13_isSign) (pc := 1) ca_11 rfl fk_X13_111 (fun _ _ _ => rfl) dX13_isSign_1 (fun r1 => ?_)
  refine sn_iconst (y := m_X13_isSign) (pc := 4) dX13_isSign_4 kc_iconst_4 ?_
  refine sn_icmp_ne (y := m_X13_isSign) (pc := 5) (tgt := 20) dX13_isSign_5 (by decide) (fun _ => ?_) (fun _ => ?_)
  · refine sn_iconst (y := m_X13_isSign) (pc := 20) dX13_isSign_20 kc_iconst_0 ?_
    exact sn_zreturnC (by decide) rfl dX13_isSign_21
  refine sn_aload_n (y := m_X13_isSign) (pc := 8) dX13_isSign_8 rfl ?_
  refine sn_getI (y := m_X13_isSign) (pc := 9) ca_11 rfl fk_X13_123 (fun _ _ _ => rfl) dX13_isSign_9 (fun r2 => ?_)
  refine sn_iload_n (y := m_X13_isSign) (pc := 12) dX13_isSign_12 rfl ?_
  refine sn_icmp_ne (y := m_X13_isSign) (pc := 13) (tgt := 20) dX13_isSign_13 (by decide) (fun _ => ?_) (fun _ => ?_)
  · refine sn_iconst (y := m_X13_isSign) (pc := 20) dX13_isSign_20 kc_iconst_0 ?_
    exact sn_zreturnC (by decide) rfl dX13_isSign_21
  refine sn_iconst (y := m_X13_isSign) (pc := 16) dX13_isSign_16 kc_iconst_1 ?_
  refine sn_goto (y := m_X13_isSign) (pc := 17) (tgt := 21) dX13_isSign_17 (by decide) ?_
  exact sn_zreturnC (by decide) rfl dX13_isSign_21
set_option maxRecDepth 100000 in
theorem c_X13_isSign (g : Gl) (p0 : (Option Nat)) (p1 : Int32) : Cn g m_X13_isSign eI [vA p0, vI p1] (mCk 11 p0 (f_X13_isSign p0 p1)) := cn_of_sn (by decide +kernel) rfl (fun r => ⟨r, rfl⟩) rfl (fun _ _ => sn_ck (s_X13_isSign p0 p1))
/-! X13_eatsWord -/
def f_X13_eatsWord (p0 : (Option Nat)) (p1 : (Option Nat)) : Mo Int32 :=
  mBd (mCk 11 p0 (f_X13_isWord p0 p1)) (fun r1 => (if r1 = 0 then mRq (r1 = 0 ∨ r1 = 1) (mRt r1) else mBd (mCk 11 p0 (f_X13_goesOn p0)) (fun _ => mRq (r1 = 0 ∨ r1 = 1) (mRt r1))))
set_option maxRecDepth 100000 in
theorem s_X13_eatsWord {cx : CX} (p0 : (Option Nat)) (p1 : (Option Nat)) : Sn cx m_X13_eatsWord eI 0 [(0, vA p0), (1, vA p1)] [] (f_X13_eatsWord p0 p1) := by
  refine sn_aload_n (y := m_X13_eatsWord) (pc := 0) dX13_eatsWord_0 rfl ?_
  refine sn_aload_n (y := m_X13_eatsWord) (pc := 1) dX13_eatsWord_1 rfl ?_
  refine sn_invV (y := m_X13_eatsWord) (pc := 2) ca_11 (av := [vA p1]) (o := p0) (st := []) dX13_eatsWord_2 lk_X13_154 im_X13_isWord se_X13_isWord rfl rfl rfl rfl ⟨by decide, by decide⟩ (c_X13_isWord cx.1 p0 p1) (fun r1 => ?_)
  refine sn_istore_n (y := m_X13_eatsWord) (pc := 5) dX13_eatsWord_5 rfl ?_
  refine sn_iload_n (y := m_X13_eatsWord) (pc := 6) dX13_eatsWord_6 rfl ?_
  refine sn_if_eq (y := m_X13_eatsWord) (pc := 7) (tgt := 14) dX13_eatsWord_7 (by decide) (fun _ => ?_) (fun _ => ?_)
  · refine sn_iload_n (y := m_X13_eatsWord) (pc := 14) dX13_eatsWord_14 rfl ?_
    exact sn_zreturn rfl dX13_eatsWord_15
  refine sn_aload_n (y := m_X13_eatsWord) (pc := 10) dX13_eatsWord_10 rfl ?_
  refine sn_invV (y := m_X13_eatsWord) (pc := 11) ca_11 (av := []) (o := p0) (st := []) dX13_eatsWord_11 lk_X13_158 im_X13_goesOn se_X13_goesOn rfl rfl rfl rfl ⟨by decide, by decide⟩ (c_X13_goesOn cx.1 p0) (fun _ => ?_)
  refine sn_iload_n (y := m_X13_eatsWord) (pc := 14) dX13_eatsWord_14 rfl ?_
  exact sn_zreturn rfl dX13_eatsWord_15
set_option maxRecDepth 100000 in
theorem c_X13_eatsWord (g : Gl) (p0 : (Option Nat)) (p1 : (Option Nat)) : Cn g m_X13_eatsWord eI [vA p0, vA p1] (mCk 11 p0 (f_X13_eatsWord p0 p1)) := cn_of_sn (by decide +kernel) rfl (fun r => ⟨r, rfl⟩) rfl (fun _ _ => sn_ck (s_X13_eatsWord p0 p1))
/-! X13_eatsSign -/
def f_X13_eatsSign (p0 : (Option Nat)) (p1 : Int32) : Mo Int32 :=
  mBd (mCk 11 p0 (f_X13_isSign p0 p1)) (fun r1 => (if r1 = 0 then mRq (r1 = 0 ∨ r1 = 1) (mRt r1) else mBd (mCk 11 p0 (f_X13_goesOn p0)) (fun _ => mRq (r1 = 0 ∨ r1 = 1) (mRt r1))))
set_option maxRecDepth 100000 in
theorem s_X13_eatsSign {cx : CX} (p0 : (Option Nat)) (p1 : Int32) : Sn cx m_X13_eatsSign eI 0 [(0, vA p0), (1, vI p1)] [] (f_X13_eatsSign p0 p1) := by
  refine sn_aload_n (y := m_X13_eatsSign) (pc := 0) dX13_eatsSign_0 rfl ?_
  refine sn_iload_n (y := m_X13_eatsSign) (pc := 1) dX13_eatsSign_1 rfl ?_
  refine sn_invV (y := m_X13_eatsSign) (pc := 2) ca_11 (av := [vI p1]) (o := p0) (st := []) dX13_eatsSign_2 lk_X13_161 im_X13_isSign se_X13_isSign rfl rfl rfl rfl ⟨by decide, by decide⟩ (c_X13_isSign cx.1 p0 p1) (fun r1 => ?_)
  refine sn_istore_n (y := m_X13_eatsSign) (pc := 5) dX13_eatsSign_5 rfl ?_
  refine sn_iload_n (y := m_X13_eatsSign) (pc := 6) dX13_eatsSign_6 rfl ?_
  refine sn_if_eq (y := m_X13_eatsSign) (pc := 7) (tgt := 14) dX13_eatsSign_7 (by decide) (fun _ => ?_) (fun _ => ?_)
  · refine sn_iload_n (y := m_X13_eatsSign) (pc := 14) dX13_eatsSign_14 rfl ?_
    exact sn_zreturn rfl dX13_eatsSign_15
  refine sn_aload_n (y := m_X13_eatsSign) (pc := 10) dX13_eatsSign_10 rfl ?_
  refine sn_invV (y := m_X13_eatsSign) (pc := 11) ca_11 (av := []) (o := p0) (st := []) dX13_eatsSign_11 lk_X13_158 im_X13_goesOn se_X13_goesOn rfl rfl rfl rfl ⟨by decide, by decide⟩ (c_X13_goesOn cx.1 p0) (fun _ => ?_)
  refine sn_iload_n (y := m_X13_eatsSign) (pc := 14) dX13_eatsSign_14 rfl ?_
  exact sn_zreturn rfl dX13_eatsSign_15
set_option maxRecDepth 100000 in
theorem c_X13_eatsSign (g : Gl) (p0 : (Option Nat)) (p1 : Int32) : Cn g m_X13_eatsSign eI [vA p0, vI p1] (mCk 11 p0 (f_X13_eatsSign p0 p1)) := cn_of_sn (by decide +kernel) rfl (fun r => ⟨r, rfl⟩) rfl (fun _ _ => sn_ck (s_X13_eatsSign p0 p1))
/-! X13_needs -/
def f_X13_needs (p0 : (Option Nat)) (p1 : (Option Nat)) : Mo Unit :=
  mBd (mCk 11 p0 (f_X13_isWord p0 p1)) (fun r1 => (if ¬ r1 = 0 then mBd (mCk 11 p0 (f_X13_goesOn p0)) (fun _ => mRt ()) else mBd (mCk 11 p0 (f_X13_wrong p0 (1 : Int32))) (fun _ => mBd (mCk 11 p0 (f_X13_goesOn p0)) (fun _ => mRt ()))))
set_option maxRecDepth 100000 in
theorem s_X13_needs {cx : CX} (p0 : (Option Nat)) (p1 : (Option Nat)) : Sn cx m_X13_needs eV 0 [(0, vA p0), (1, vA p1)] [] (f_X13_needs p0 p1) := by
  refine sn_aload_n (y := m_X13_needs) (pc := 0) dX13_needs_0 rfl ?_
  refine sn_aload_n (y := m_X13_needs) (pc := 1) dX13_needs_1 rfl ?_
  refine sn_invV (y := m_X13_needs) (pc := 2) ca_11 (av := [vA p1]) (o := p0) (st := []) dX13_needs_2 lk_X13_154 im_X13_isWord se_X13_isWord rfl rfl rfl rfl ⟨by decide, by decide⟩ (c_X13_isWord cx.1 p0 p1) (fun r1 => ?_)
  refine sn_if_ne (y := m_X13_needs) (pc := 5) (tgt := 13) dX13_needs_5 (by decide) (fun _ => ?_) (fun _ => ?_)
  · refine sn_aload_n (y := m_X13_needs) (pc := 13) dX13_needs_13 rfl ?_
    refine sn_invV (y := m_X13_needs) (pc := 14) ca_11 (av := []) (o := p0) (st := []) dX13_needs_14 lk_X13_158 im_X13_goesOn se_X13_goesOn rfl rfl rfl rfl ⟨by decide, by decide⟩ (c_X13_goesOn cx.1 p0) (fun _ => ?_)
    exact sn_return rfl dX13_needs_17
  refine sn_aload_n (y := m_X13_needs) (pc := 8) dX13_needs_8 rfl ?_
  refine sn_iconst (y := m_X13_needs) (pc := 9) dX13_needs_9 kc_iconst_1 ?_
  refine sn_invV (y := m_X13_needs) (pc := 10) ca_11 (av := [vI (1 : Int32)]) (o := p0) (st := []) dX13_needs_10 lk_X13_164 im_X13_wrong se_X13_wrong rfl rfl rfl rfl ⟨by decide, by decide⟩ (c_X13_wrong cx.1 p0 (1 : Int32)) (fun _ => ?_)
  refine sn_aload_n (y := m_X13_needs) (pc := 13) dX13_needs_13 rfl ?_
  refine sn_invV (y := m_X13_needs) (pc := 14) ca_11 (av := []) (o := p0) (st := []) dX13_needs_14 lk_X13_158 im_X13_goesOn se_X13_goesOn rfl rfl rfl rfl ⟨by decide, by decide⟩ (c_X13_goesOn cx.1 p0) (fun _ => ?_)
  exact sn_return rfl dX13_needs_17
set_option maxRecDepth 100000 in
theorem c_X13_needs (g : Gl) (p0 : (Option Nat)) (p1 : (Option Nat)) : Cn g m_X13_needs eV [vA p0, vA p1] (mCk 11 p0 (f_X13_needs p0 p1)) := cn_of_sn (by decide +kernel) rfl (fun _ => rfl) rfl (fun _ _ => sn_ck (s_X13_needs p0 p1))
/-! X13_needsSign -/
def f_X13_needsSign (p0 : (Option Nat)) (p1 : Int32) : Mo Unit :=
  mBd (mCk 11 p0 (f_X13_isSign p0 p1)) (fun r1 => (if ¬ r1 = 0 then mBd (mCk 11 p0 (f_X13_goesOn p0)) (fun _ => mRt ()) else mBd (mCk 11 p0 (f_X13_wrong p0 (1 : Int32))) (fun _ => mBd (mCk 11 p0 (f_X13_goesOn p0)) (fun _ => mRt ()))))
set_option maxRecDepth 100000 in
theorem s_X13_needsSign {cx : CX} (p0 : (Option Nat)) (p1 : Int32) : Sn cx m_X13_needsSign eV 0 [(0, vA p0), (1, vI p1)] [] (f_X13_needsSign p0 p1) := by
  refine sn_aload_n (y := m_X13_needsSign) (pc := 0) dX13_needsSign_0 rfl ?_
  refine sn_iload_n (y := m_X13_needsSign) (pc := 1) dX13_needsSign_1 rfl ?_
  refine sn_invV (y := m_X13_needsSign) (pc := 2) ca_11 (av := [vI p1]) (o := p0) (st := []) dX13_needsSign_2 lk_X13_161 im_X13_isSign se_X13_isSign rfl rfl rfl rfl ⟨by decide, by decide⟩ (c_X13_isSign cx.1 p0 p1) (fun r1 => ?_)
  refine sn_if_ne (y := m_X13_needsSign) (pc := 5) (tgt := 13) dX13_needsSign_5 (by decide) (fun _ => ?_) (fun _ => ?_)
  · refine sn_aload_n (y := m_X13_needsSign) (pc := 13) dX13_needsSign_13 rfl ?_
    refine sn_invV (y := m_X13_needsSign) (pc := 14) ca_11 (av := []) (o := p0) (st := []) dX13_needsSign_14 lk_X13_158 im_X13_goesOn se_X13_goesOn rfl rfl rfl rfl ⟨by decide, by decide⟩ (c_X13_goesOn cx.1 p0) (fun _ => ?_)
    exact sn_return rfl dX13_needsSign_17
  refine sn_aload_n (y := m_X13_needsSign) (pc := 8) dX13_needsSign_8 rfl ?_
  refine sn_iconst (y := m_X13_needsSign) (pc := 9) dX13_needsSign_9 kc_iconst_1 ?_
  refine sn_invV (y := m_X13_needsSign) (pc := 10) ca_11 (av := [vI (1 : Int32)]) (o := p0) (st := []) dX13_needsSign_10 lk_X13_164 im_X13_wrong se_X13_wrong rfl rfl rfl rfl ⟨by decide, by decide⟩ (c_X13_wrong cx.1 p0 (1 : Int32)) (fun _ => ?_)
  refine sn_aload_n (y := m_X13_needsSign) (pc := 13) dX13_needsSign_13 rfl ?_
  refine sn_invV (y := m_X13_needsSign) (pc := 14) ca_11 (av := []) (o := p0) (st := []) dX13_needsSign_14 lk_X13_158 im_X13_goesOn se_X13_goesOn rfl rfl rfl rfl ⟨by decide, by decide⟩ (c_X13_goesOn cx.1 p0) (fun _ => ?_)
  exact sn_return rfl dX13_needsSign_17
set_option maxRecDepth 100000 in
theorem c_X13_needsSign (g : Gl) (p0 : (Option Nat)) (p1 : Int32) : Cn g m_X13_needsSign eV [vA p0, vI p1] (mCk 11 p0 (f_X13_needsSign p0 p1)) := cn_of_sn (by decide +kernel) rfl (fun _ => rfl) rfl (fun _ _ => sn_ck (s_X13_needsSign p0 p1))
/-! X13_bounded -/
def f_X13_bounded_j33 (x0 : (Option Nat)) (x1 : Int32) : Mo Int32 :=
  mBd (mGetI 11 11 x0) (fun r4 => (if ¬ r4 = (5 : Int32) then mBd (mGetI 11 14 x0) (fun r5 => mRt r5) else mRt x1))
set_option maxRecDepth 100000 in
theorem s_X13_bounded_j33 {cx : CX} (x0 : (Option Nat)) (x1 : Int32) : Sn cx m_X13_bounded eI 33 [(0, vA x0), (1, vI x1)] [] (f_X13_bounded_j33 x0 x1) := by
  refine sn_aload_n (y := m_X13_bounded) (pc := 33) dX13_bounded_33 rfl ?_
  refine sn_getI (y := m_X13_bounded) (pc := 34) ca_11 rfl fk_X13_111 (fun _ _ _ => rfl) dX13_bounded_34 (fun r4 => ?_)
  refine sn_iconst (y := m_X13_bounded) (pc := 37) dX13_bounded_37 kc_iconst_5 ?_
  refine sn_icmp_ne (y := m_X13_bounded) (pc := 38) (tgt := 45) dX13_bounded_38 (by decide) (fun _ => ?_) (fun _ => ?_)
  · refine sn_aload_n (y := m_X13_bounded) (pc := 45) dX13_bounded_45 rfl ?_
    refine sn_getI (y := m_X13_bounded) (pc := 46) ca_11 rfl fk_X13_137 (fun _ _ _ => rfl) dX13_bounded_46 (fun r5 => ?_)
    exact sn_ireturn rfl dX13_bounded_49
  refine sn_iload_n (y := m_X13_bounded) (pc := 41) dX13_bounded_41 rfl ?_
  refine sn_goto (y := m_X13_bounded) (pc := 42) (tgt := 49) dX13_bounded_42 (by decide) ?_
  exact sn_ireturn rfl dX13_bounded_49
def f_X13_bounded (p0 : (Option Nat)) (p1 : Int32) (p2 : Int32) : Mo Int32 :=
  mBd (mGetI 11 11 p0) (fun r1 => (if r1 = (3 : Int32) then mBd (mGetI 11 14 p0) (fun r2 => mBd (f_X13_in r2 p1 p2) (fun r3 => (if ¬ r3 = 0 then f_X13_bounded_j33 p0 p1 else mBd (mCk 11 p0 (f_X13_wrong p0 (4 : Int32))) (fun _ => f_X13_bounded_j33 p0 p1)))) else mBd (mCk 11 p0 (f_X13_wrong p0 (1 : Int32))) (fun _ => f_X13_bounded_j33 p0 p1)))
set_option maxRecDepth 100000 in
theorem s_X13_bounded {cx : CX} (p0 : (Option Nat)) (p1 : Int32) (p2 : Int32) : Sn cx m_X13_bounded eI 0 [(0, vA p0), (1, vI p1), (2, vI p2)] [] (f_X13_bounded p0 p1 p2) := by
  refine sn_aload_n (y := m_X13_bounded) (pc := 0) dX13_bounded_0 rfl ?_
  refine sn_getI (y := m_X13_bounded) (pc := 1) ca_11 rfl fk_X13_111 (fun _ _ _ => rfl) dX13_bounded_1 (fun r1 => ?_)
  refine sn_iconst (y := m_X13_bounded) (pc := 4) dX13_bounded_4 kc_iconst_3 ?_
  refine sn_icmp_eq (y := m_X13_bounded) (pc := 5) (tgt := 16) dX13_bounded_5 (by decide) (fun _ => ?_) (fun _ => ?_)
  · refine sn_aload_n (y := m_X13_bounded) (pc := 16) dX13_bounded_16 rfl ?_
    refine sn_getI (y := m_X13_bounded) (pc := 17) ca_11 rfl fk_X13_137 (fun _ _ _ => rfl) dX13_bounded_17 (fun r2 => ?_)
    refine sn_iload_n (y := m_X13_bounded) (pc := 20) dX13_bounded_20 rfl ?_
    refine sn_iload_n (y := m_X13_bounded) (pc := 21) dX13_bounded_21 rfl ?_
    refine sn_invS (y := m_X13_bounded) (pc := 22) (av := [vI r2, vI p1, vI p2]) (st := []) dX13_bounded_22 lk_X13_168 sw_X13_in rfl rfl rfl ⟨by decide, by decide⟩ (c_X13_in cx.1 r2 p1 p2) (fun r3 => ?_)
    refine sn_if_ne (y := m_X13_bounded) (pc := 25) (tgt := 33) dX13_bounded_25 (by decide) (fun _ => ?_) (fun _ => ?_)
    · exact sn_sub rfl (s_X13_bounded_j33 p0 p1)
    refine sn_aload_n (y := m_X13_bounded) (pc := 28) dX13_bounded_28 rfl ?_
    refine sn_iconst (y := m_X13_bounded) (pc := 29) dX13_bounded_29 kc_iconst_4 ?_
    refine sn_invV (y := m_X13_bounded) (pc := 30) ca_11 (av := [vI (4 : Int32)]) (o := p0) (st := []) dX13_bounded_30 lk_X13_164 im_X13_wrong se_X13_wrong rfl rfl rfl rfl ⟨by decide, by decide⟩ (c_X13_wrong cx.1 p0 (4 : Int32)) (fun _ => ?_)
    exact sn_sub rfl (s_X13_bounded_j33 p0 p1)
  refine sn_aload_n (y := m_X13_bounded) (pc := 8) dX13_bounded_8 rfl ?_
  refine sn_iconst (y := m_X13_bounded) (pc := 9) dX13_bounded_9 kc_iconst_1 ?_
  refine sn_invV (y := m_X13_bounded) (pc := 10) ca_11 (av := [vI (1 : Int32)]) (o := p0) (st := []) dX13_bounded_10 lk_X13_164 im_X13_wrong se_X13_wrong rfl rfl rfl rfl ⟨by decide, by decide⟩ (c_X13_wrong cx.1 p0 (1 : Int32)) (fun _ => ?_)
  refine sn_goto (y := m_X13_bounded) (pc := 13) (tgt := 33) dX13_bounded_13 (by decide) ?_
  exact sn_sub rfl (s_X13_bounded_j33 p0 p1)
set_option maxRecDepth 100000 in
theorem c_X13_bounded (g : Gl) (p0 : (Option Nat)) (p1 : Int32) (p2 : Int32) : Cn g m_X13_bounded eI [vA p0, vI p1, vI p2] (mCk 11 p0 (f_X13_bounded p0 p1 p2)) := cn_of_sn (by decide +kernel) rfl (fun r => ⟨r, rfl⟩) rfl (fun _ _ => sn_ck (s_X13_bounded p0 p1 p2))
/-! X13_readWhole -/
def f_X13_readWhole (p0 : (Option Nat)) (p1 : Int32) (p2 : Int32) : Mo Int32 :=
  mBd (mCk 11 p0 (f_X13_bounded p0 p1 p2)) (fun r1 => mBd (mCk 11 p0 (f_X13_goesOn p0)) (fun _ => mRt r1))
set_option maxRecDepth 100000 in
theorem s_X13_readWhole {cx : CX} (p0 : (Option Nat)) (p1 : Int32) (p2 : Int32) : Sn cx m_X13_readWhole eI 0 [(0, vA p0), (1, vI p1), (2, vI p2)] [] (f_X13_readWhole p0 p1 p2) := by
  refine sn_aload_n (y := m_X13_readWhole) (pc := 0) dX13_readWhole_0 rfl ?_
  refine sn_iload_n (y := m_X13_readWhole) (pc := 1) dX13_readWhole_1 rfl ?_
  refine sn_iload_n (y := m_X13_readWhole) (pc := 2) dX13_readWhole_2 rfl ?_
  refine sn_invV (y := m_X13_readWhole) (pc := 3) ca_11 (av := [vI p1, vI p2]) (o := p0) (st := []) dX13_readWhole_3 lk_X13_172 im_X13_bounded se_X13_bounded rfl rfl rfl rfl ⟨by decide, by decide⟩ (c_X13_bounded cx.1 p0 p1 p2) (fun r1 => ?_)
  refine sn_istore_n (y := m_X13_readWhole) (pc := 6) dX13_readWhole_6 rfl ?_
  refine sn_aload_n (y := m_X13_readWhole) (pc := 7) dX13_readWhole_7 rfl ?_
  refine sn_invV (y := m_X13_readWhole) (pc := 8) ca_11 (av := []) (o := p0) (st := []) dX13_readWhole_8 lk_X13_158 im_X13_goesOn se_X13_goesOn rfl rfl rfl rfl ⟨by decide, by decide⟩ (c_X13_goesOn cx.1 p0) (fun _ => ?_)
  refine sn_iload_n (y := m_X13_readWhole) (pc := 11) dX13_readWhole_11 rfl ?_
  exact sn_ireturn rfl dX13_readWhole_12
set_option maxRecDepth 100000 in
theorem c_X13_readWhole (g : Gl) (p0 : (Option Nat)) (p1 : Int32) (p2 : Int32) : Cn g m_X13_readWhole eI [vA p0, vI p1, vI p2] (mCk 11 p0 (f_X13_readWhole p0 p1 p2)) := cn_of_sn (by decide +kernel) rfl (fun r => ⟨r, rfl⟩) rfl (fun _ _ => sn_ck (s_X13_readWhole p0 p1 p2))
/-! X13_isName -/
def f_X13_isName (p0 : (Option Nat)) : Mo Int32 :=
  mBd (mGetI 11 11 p0) (fun r1 => (if ¬ r1 = (2 : Int32) then mRt (0 : Int32) else mBd (mCk 11 p0 (f_X13_isWord p0 ((some 6)))) (fun r2 => (if ¬ r2 = 0 then mRt (0 : Int32) else mBd (mCk 11 p0 (f_X13_isWord p0 ((some 7)))) (fun r3 => (if ¬ r3 = 0 then mRt (0 : Int32) else mBd (mCk 11 p0 (f_X13_isWord p0 ((some 8)))) (fun r4 => (if ¬ r4 = 0 then mRt (0 : Int32) else mBd (mCk 11 p0 (f_X13_isWord p0 ((some 9)))) (fun r5 => (if ¬ r5 = 0 then mRt (0 : Int32) else mBd (mCk 11 p0 (f_X13_isWord p0 ((some 10)))) (fun r6 => (if ¬ r6 = 0 then mRt (0 : Int32) else mBd (mCk 11 p0 (f_X13_isWord p0 ((some 11)))) (fun r7 => (if ¬ r7 = 0 then mRt (0 : Int32) else mBd (mCk 11 p0 (f_X13_isWord p0 ((some 12)))) (fun r8 => (if r8 = 0 then mBd (mCk 11 p0 (f_X13_isWord p0 ((some 13)))) (fun r9 => (if ¬ r9 = 0 then mRt (0 : Int32) else mBd (mCk 11 p0 (f_X13_isWord p0 ((some 14)))) (fun r10 => (if ¬ r10 = 0 then mRt (0 : Int32) else mBd (mCk 11 p0 (f_X13_isWord p0 ((some 15)))) (fun r11 => (if ¬ r11 = 0 then mRt (0 : Int32) else mBd (mCk 11 p0 (f_X13_isWord p0 ((some 16)))) (fun r12 => (if ¬ r12 = 0 then mRt (0 : Int32) else mBd (mCk 11 p0 (f_X13_isWord p0 ((some 17)))) (fun r13 => (if ¬ r13 = 0 then mRt (0 : Int32) else mBd (mCk 11 p0 (f_X13_isWord p0 ((some 18)))) (fun r14 => (if ¬ r14 = 0 then mRt (0 : Int32) else mRt (1 : Int32))))))))))))) else mRt (0 : Int32)))))))))))))))))
set_option maxRecDepth 100000 in
theorem s_X13_isName {cx : CX} (p0 : (Option Nat)) : Sn cx m_X13_isName eI 0 [(0, vA p0)] [] (f_X13_isName p0) := by
  refine sn_aload_n (y := m_X13_isName) (pc := 0) dX13_isName_0 rfl ?_
  refine sn_getI (y := m_X13_isName) (pc := 1) ca_11 rfl fk_X13_111 (fun _ _ _ => rfl) dX13_isName_1 (fun r1 => ?_)
  refine sn_iconst (y := m_X13_isName) (pc := 4) dX13_isName_4 kc_iconst_2 ?_
  refine sn_icmp_ne (y := m_X13_isName) (pc := 5) (tgt := 71) dX13_isName_5 (by decide) (fun _ => ?_) (fun _ => ?_)
  · refine sn_iconst (y := m_X13_isName) (pc := 71) dX13_isName_71 kc_iconst_0 ?_
    exact sn_zreturnC (by decide) rfl dX13_isName_72
  refine sn_aload_n (y := m_X13_isName) (pc := 8) dX13_isName_8 rfl ?_
  refine sn_ldcS (y := m_X13_isName) (pc := 9) (i := 3) rfl (by decide) dX13_isName_9 ?_
  refine sn_invV (y := m_X13_isName) (pc := 11) ca_11 (av := [vA ((some 6))]) (o := p0) (st := []) dX13_isName_11 lk_X13_154 im_X13_isWord se_X13_isWord rfl rfl rfl rfl ⟨by decide, by decide⟩ (c_X13_isWord cx.1 p0 ((some 6))) (fun r2 => ?_)
  refine sn_if_ne (y := m_X13_isName) (pc := 14) (tgt := 71) dX13_isName_14 (by decide) (fun _ => ?_) (fun _ => ?_)
  · refine sn_iconst (y := m_X13_isName) (pc := 71) dX13_isName_71 kc_iconst_0 ?_
    exact sn_zreturnC (by decide) rfl dX13_isName_72
  refine sn_aload_n (y := m_X13_isName) (pc := 17) dX13_isName_17 rfl ?_
  refine sn_ldcS (y := m_X13_isName) (pc := 18) (i := 4) rfl (by decide) dX13_isName_18 ?_
  refine sn_invV (y := m_X13_isName) (pc := 20) ca_11 (av := [vA ((some 7))]) (o := p0) (st := []) dX13_isName_20 lk_X13_154 im_X13_isWord se_X13_isWord rfl rfl rfl rfl ⟨by decide, by decide⟩ (c_X13_isWord cx.1 p0 ((some 7))) (fun r3 => ?_)
  refine sn_if_ne (y := m_X13_isName) (pc := 23) (tgt := 71) dX13_isName_23 (by decide) (fun _ => ?_) (fun _ => ?_)
  · refine sn_iconst (y := m_X13_isName) (pc := 71) dX13_isName_71 kc_iconst_0 ?_
    exact sn_zreturnC (by decide) rfl dX13_isName_72
  refine sn_aload_n (y := m_X13_isName) (pc := 26) dX13_isName_26 rfl ?_
  refine sn_ldcS (y := m_X13_isName) (pc := 27) (i := 5) rfl (by decide) dX13_isName_27 ?_
  refine sn_invV (y := m_X13_isName) (pc := 29) ca_11 (av := [vA ((some 8))]) (o := p0) (st := []) dX13_isName_29 lk_X13_154 im_X13_isWord se_X13_isWord rfl rfl rfl rfl ⟨by decide, by decide⟩ (c_X13_isWord cx.1 p0 ((some 8))) (fun r4 => ?_)
  refine sn_if_ne (y := m_X13_isName) (pc := 32) (tgt := 71) dX13_isName_32 (by decide) (fun _ => ?_) (fun _ => ?_)
  · refine sn_iconst (y := m_X13_isName) (pc := 71) dX13_isName_71 kc_iconst_0 ?_
    exact sn_zreturnC (by decide) rfl dX13_isName_72
  refine sn_aload_n (y := m_X13_isName) (pc := 35) dX13_isName_35 rfl ?_
  refine sn_ldcS (y := m_X13_isName) (pc := 36) (i := 6) rfl (by decide) dX13_isName_36 ?_
  refine sn_invV (y := m_X13_isName) (pc := 38) ca_11 (av := [vA ((some 9))]) (o := p0) (st := []) dX13_isName_38 lk_X13_154 im_X13_isWord se_X13_isWord rfl rfl rfl rfl ⟨by decide, by decide⟩ (c_X13_isWord cx.1 p0 ((some 9))) (fun r5 => ?_)
  refine sn_if_ne (y := m_X13_isName) (pc := 41) (tgt := 71) dX13_isName_41 (by decide) (fun _ => ?_) (fun _ => ?_)
  · refine sn_iconst (y := m_X13_isName) (pc := 71) dX13_isName_71 kc_iconst_0 ?_
    exact sn_zreturnC (by decide) rfl dX13_isName_72
  refine sn_aload_n (y := m_X13_isName) (pc := 44) dX13_isName_44 rfl ?_
  refine sn_ldcS (y := m_X13_isName) (pc := 45) (i := 7) rfl (by decide) dX13_isName_45 ?_
  refine sn_invV (y := m_X13_isName) (pc := 47) ca_11 (av := [vA ((some 10))]) (o := p0) (st := []) dX13_isName_47 lk_X13_154 im_X13_isWord se_X13_isWord rfl rfl rfl rfl ⟨by decide, by decide⟩ (c_X13_isWord cx.1 p0 ((some 10))) (fun r6 => ?_)
  refine sn_if_ne (y := m_X13_isName) (pc := 50) (tgt := 71) dX13_isName_50 (by decide) (fun _ => ?_) (fun _ => ?_)
  · refine sn_iconst (y := m_X13_isName) (pc := 71) dX13_isName_71 kc_iconst_0 ?_
    exact sn_zreturnC (by decide) rfl dX13_isName_72
  refine sn_aload_n (y := m_X13_isName) (pc := 53) dX13_isName_53 rfl ?_
  refine sn_ldcS (y := m_X13_isName) (pc := 54) (i := 8) rfl (by decide) dX13_isName_54 ?_
  refine sn_invV (y := m_X13_isName) (pc := 56) ca_11 (av := [vA ((some 11))]) (o := p0) (st := []) dX13_isName_56 lk_X13_154 im_X13_isWord se_X13_isWord rfl rfl rfl rfl ⟨by decide, by decide⟩ (c_X13_isWord cx.1 p0 ((some 11))) (fun r7 => ?_)
  refine sn_if_ne (y := m_X13_isName) (pc := 59) (tgt := 71) dX13_isName_59 (by decide) (fun _ => ?_) (fun _ => ?_)
  · refine sn_iconst (y := m_X13_isName) (pc := 71) dX13_isName_71 kc_iconst_0 ?_
    exact sn_zreturnC (by decide) rfl dX13_isName_72
  refine sn_aload_n (y := m_X13_isName) (pc := 62) dX13_isName_62 rfl ?_
  refine sn_ldcS (y := m_X13_isName) (pc := 63) (i := 9) rfl (by decide) dX13_isName_63 ?_
  refine sn_invV (y := m_X13_isName) (pc := 65) ca_11 (av := [vA ((some 12))]) (o := p0) (st := []) dX13_isName_65 lk_X13_154 im_X13_isWord se_X13_isWord rfl rfl rfl rfl ⟨by decide, by decide⟩ (c_X13_isWord cx.1 p0 ((some 12))) (fun r8 => ?_)
  refine sn_if_eq (y := m_X13_isName) (pc := 68) (tgt := 73) dX13_isName_68 (by decide) (fun _ => ?_) (fun _ => ?_)
  · refine sn_aload_n (y := m_X13_isName) (pc := 73) dX13_isName_73 rfl ?_
    refine sn_ldcS (y := m_X13_isName) (pc := 74) (i := 10) rfl (by decide) dX13_isName_74 ?_
    refine sn_invV (y := m_X13_isName) (pc := 76) ca_11 (av := [vA ((some 13))]) (o := p0) (st := []) dX13_isName_76 lk_X13_154 im_X13_isWord se_X13_isWord rfl rfl rfl rfl ⟨by decide, by decide⟩ (c_X13_isWord cx.1 p0 ((some 13))) (fun r9 => ?_)
    refine sn_if_ne (y := m_X13_isName) (pc := 79) (tgt := 131) dX13_isName_79 (by decide) (fun _ => ?_) (fun _ => ?_)
    · refine sn_iconst (y := m_X13_isName) (pc := 131) dX13_isName_131 kc_iconst_0 ?_
      exact sn_zreturnC (by decide) rfl dX13_isName_132
    refine sn_aload_n (y := m_X13_isName) (pc := 82) dX13_isName_82 rfl ?_
    refine sn_ldcS (y := m_X13_isName) (pc := 83) (i := 11) rfl (by decide) dX13_isName_83 ?_
    refine sn_invV (y := m_X13_isName) (pc := 85) ca_11 (av := [vA ((some 14))]) (o := p0) (st := []) dX13_isName_85 lk_X13_154 im_X13_isWord se_X13_isWord rfl rfl rfl rfl ⟨by decide, by decide⟩ (c_X13_isWord cx.1 p0 ((some 14))) (fun r10 => ?_)
    refine sn_if_ne (y := m_X13_isName) (pc := 88) (tgt := 131) dX13_isName_88 (by decide) (fun _ => ?_) (fun _ => ?_)
    · refine sn_iconst (y := m_X13_isName) (pc := 131) dX13_isName_131 kc_iconst_0 ?_
      exact sn_zreturnC (by decide) rfl dX13_isName_132
    refine sn_aload_n (y := m_X13_isName) (pc := 91) dX13_isName_91 rfl ?_
    refine sn_ldcS (y := m_X13_isName) (pc := 92) (i := 12) rfl (by decide) dX13_isName_92 ?_
    refine sn_invV (y := m_X13_isName) (pc := 94) ca_11 (av := [vA ((some 15))]) (o := p0) (st := []) dX13_isName_94 lk_X13_154 im_X13_isWord se_X13_isWord rfl rfl rfl rfl ⟨by decide, by decide⟩ (c_X13_isWord cx.1 p0 ((some 15))) (fun r11 => ?_)
    refine sn_if_ne (y := m_X13_isName) (pc := 97) (tgt := 131) dX13_isName_97 (by decide) (fun _ => ?_) (fun _ => ?_)
    · refine sn_iconst (y := m_X13_isName) (pc := 131) dX13_isName_131 kc_iconst_0 ?_
      exact sn_zreturnC (by decide) rfl dX13_isName_132
    refine sn_aload_n (y := m_X13_isName) (pc := 100) dX13_isName_100 rfl ?_
    refine sn_ldcS (y := m_X13_isName) (pc := 101) (i := 13) rfl (by decide) dX13_isName_101 ?_
    refine sn_invV (y := m_X13_isName) (pc := 103) ca_11 (av := [vA ((some 16))]) (o := p0) (st := []) dX13_isName_103 lk_X13_154 im_X13_isWord se_X13_isWord rfl rfl rfl rfl ⟨by decide, by decide⟩ (c_X13_isWord cx.1 p0 ((some 16))) (fun r12 => ?_)
    refine sn_if_ne (y := m_X13_isName) (pc := 106) (tgt := 131) dX13_isName_106 (by decide) (fun _ => ?_) (fun _ => ?_)
    · refine sn_iconst (y := m_X13_isName) (pc := 131) dX13_isName_131 kc_iconst_0 ?_
      exact sn_zreturnC (by decide) rfl dX13_isName_132
    refine sn_aload_n (y := m_X13_isName) (pc := 109) dX13_isName_109 rfl ?_
    refine sn_ldcS (y := m_X13_isName) (pc := 110) (i := 14) rfl (by decide) dX13_isName_110 ?_
    refine sn_invV (y := m_X13_isName) (pc := 112) ca_11 (av := [vA ((some 17))]) (o := p0) (st := []) dX13_isName_112 lk_X13_154 im_X13_isWord se_X13_isWord rfl rfl rfl rfl ⟨by decide, by decide⟩ (c_X13_isWord cx.1 p0 ((some 17))) (fun r13 => ?_)
    refine sn_if_ne (y := m_X13_isName) (pc := 115) (tgt := 131) dX13_isName_115 (by decide) (fun _ => ?_) (fun _ => ?_)
    · refine sn_iconst (y := m_X13_isName) (pc := 131) dX13_isName_131 kc_iconst_0 ?_
      exact sn_zreturnC (by decide) rfl dX13_isName_132
    refine sn_aload_n (y := m_X13_isName) (pc := 118) dX13_isName_118 rfl ?_
    refine sn_ldcS (y := m_X13_isName) (pc := 119) (i := 15) rfl (by decide) dX13_isName_119 ?_
    refine sn_invV (y := m_X13_isName) (pc := 121) ca_11 (av := [vA ((some 18))]) (o := p0) (st := []) dX13_isName_121 lk_X13_154 im_X13_isWord se_X13_isWord rfl rfl rfl rfl ⟨by decide, by decide⟩ (c_X13_isWord cx.1 p0 ((some 18))) (fun r14 => ?_)
    refine sn_if_ne (y := m_X13_isName) (pc := 124) (tgt := 131) dX13_isName_124 (by decide) (fun _ => ?_) (fun _ => ?_)
    · refine sn_iconst (y := m_X13_isName) (pc := 131) dX13_isName_131 kc_iconst_0 ?_
      exact sn_zreturnC (by decide) rfl dX13_isName_132
    refine sn_iconst (y := m_X13_isName) (pc := 127) dX13_isName_127 kc_iconst_1 ?_
    refine sn_goto (y := m_X13_isName) (pc := 128) (tgt := 132) dX13_isName_128 (by decide) ?_
    exact sn_zreturnC (by decide) rfl dX13_isName_132
  refine sn_iconst (y := m_X13_isName) (pc := 71) dX13_isName_71 kc_iconst_0 ?_
  exact sn_zreturnC (by decide) rfl dX13_isName_72
set_option maxRecDepth 100000 in
theorem c_X13_isName (g : Gl) (p0 : (Option Nat)) : Cn g m_X13_isName eI [vA p0] (mCk 11 p0 (f_X13_isName p0)) := cn_of_sn (by decide +kernel) rfl (fun r => ⟨r, rfl⟩) rfl (fun _ _ => sn_ck (s_X13_isName p0))
/-! X13_begins -/
def f_X13_begins (p0 : (Option Nat)) (p1 : Int32) (p2 : Int32) : Mo Unit :=
  (if ¬ p1 = p2 then mBd (mCk 11 p0 (f_X13_goesOn p0)) (fun _ => mRt ()) else mBd (mCk 11 p0 (f_X13_wrong p0 (5 : Int32))) (fun _ => mBd (mCk 11 p0 (f_X13_goesOn p0)) (fun _ => mRt ())))
set_option maxRecDepth 100000 in
theorem s_X13_begins {cx : CX} (p0 : (Option Nat)) (p1 : Int32) (p2 : Int32) : Sn cx m_X13_begins eV 0 [(0, vA p0), (1, vI p1), (2, vI p2)] [] (f_X13_begins p0 p1 p2) := by
  refine sn_iload_n (y := m_X13_begins) (pc := 0) dX13_begins_0 rfl ?_
  refine sn_iload_n (y := m_X13_begins) (pc := 1) dX13_begins_1 rfl ?_
  refine sn_icmp_ne (y := m_X13_begins) (pc := 2) (tgt := 10) dX13_begins_2 (by decide) (fun _ => ?_) (fun _ => ?_)
  · refine sn_aload_n (y := m_X13_begins) (pc := 10) dX13_begins_10 rfl ?_
    refine sn_invV (y := m_X13_begins) (pc := 11) ca_11 (av := []) (o := p0) (st := []) dX13_begins_11 lk_X13_158 im_X13_goesOn se_X13_goesOn rfl rfl rfl rfl ⟨by decide, by decide⟩ (c_X13_goesOn cx.1 p0) (fun _ => ?_)
    exact sn_return rfl dX13_begins_14
  refine sn_aload_n (y := m_X13_begins) (pc := 5) dX13_begins_5 rfl ?_
  refine sn_iconst (y := m_X13_begins) (pc := 6) dX13_begins_6 kc_iconst_5 ?_
  refine sn_invV (y := m_X13_begins) (pc := 7) ca_11 (av := [vI (5 : Int32)]) (o := p0) (st := []) dX13_begins_7 lk_X13_164 im_X13_wrong se_X13_wrong rfl rfl rfl rfl ⟨by decide, by decide⟩ (c_X13_wrong cx.1 p0 (5 : Int32)) (fun _ => ?_)
  refine sn_aload_n (y := m_X13_begins) (pc := 10) dX13_begins_10 rfl ?_
  refine sn_invV (y := m_X13_begins) (pc := 11) ca_11 (av := []) (o := p0) (st := []) dX13_begins_11 lk_X13_158 im_X13_goesOn se_X13_goesOn rfl rfl rfl rfl ⟨by decide, by decide⟩ (c_X13_goesOn cx.1 p0) (fun _ => ?_)
  exact sn_return rfl dX13_begins_14
set_option maxRecDepth 100000 in
theorem c_X13_begins (g : Gl) (p0 : (Option Nat)) (p1 : Int32) (p2 : Int32) : Cn g m_X13_begins eV [vA p0, vI p1, vI p2] (mCk 11 p0 (f_X13_begins p0 p1 p2)) := cn_of_sn (by decide +kernel) rfl (fun _ => rfl) rfl (fun _ _ => sn_ck (s_X13_begins p0 p1 p2))
/-! X13_readFresh -/
def f_X13_readFresh_j12 (x0 : (Option Nat)) : Mo Int64 :=
  mBd (mGetA 11 4 x0) (fun r2 => mBd (mGetJ 11 17 x0) (fun r3 => mBd (mCk 9 r2 (f_X11_find r2 r3)) (fun r4 => (if r4 = (-1 : Int32) then mBd (mGetJ 11 17 x0) (fun r5 => mBd (mCk 11 x0 (f_X13_goesOn x0)) (fun _ => mRt r5)) else mBd (mCk 11 x0 (f_X13_wrong x0 (3 : Int32))) (fun _ => mBd (mGetJ 11 17 x0) (fun r6 => mBd (mCk 11 x0 (f_X13_goesOn x0)) (fun _ => mRt r6)))))))
set_option maxRecDepth 100000 in
theorem s_X13_readFresh_j12 {cx : CX} (x0 : (Option Nat)) : Sn cx m_X13_readFresh eJ 12 [(0, vA x0)] [] (f_X13_readFresh_j12 x0) := by
  refine sn_aload_n (y := m_X13_readFresh) (pc := 12) dX13_readFresh_12 rfl ?_
  refine sn_getA (y := m_X13_readFresh) (pc := 13) ca_11 rfl fk_X13_205 (fun _ _ _ => rfl) dX13_readFresh_13 (fun r2 => ?_)
  refine sn_aload_n (y := m_X13_readFresh) (pc := 16) dX13_readFresh_16 rfl ?_
  refine sn_getJ (y := m_X13_readFresh) (pc := 17) ca_11 rfl fk_X13_130 (fun _ _ _ => rfl) dX13_readFresh_17 (fun r3 => ?_)
  refine sn_invV (y := m_X13_readFresh) (pc := 20) ca_9 (av := [vJ r3]) (o := r2) (st := []) dX13_readFresh_20 lk_X13_209 im_X11_find se_X11_find rfl rfl rfl rfl ⟨by decide, by decide⟩ (c_X11_find cx.1 r2 r3) (fun r4 => ?_)
  refine sn_iconst (y := m_X13_readFresh) (pc := 23) dX13_readFresh_23 kc_iconst_m1 ?_
  refine sn_icmp_eq (y := m_X13_readFresh) (pc := 24) (tgt := 32) dX13_readFresh_24 (by decide) (fun _ => ?_) (fun _ => ?_)
  · refine sn_aload_n (y := m_X13_readFresh) (pc := 32) dX13_readFresh_32 rfl ?_
    refine sn_getJ (y := m_X13_readFresh) (pc := 33) ca_11 rfl fk_X13_130 (fun _ _ _ => rfl) dX13_readFresh_33 (fun r5 => ?_)
    refine sn_lstore_n (y := m_X13_readFresh) (pc := 36) dX13_readFresh_36 rfl ?_
    refine sn_aload_n (y := m_X13_readFresh) (pc := 37) dX13_readFresh_37 rfl ?_
    refine sn_invV (y := m_X13_readFresh) (pc := 38) ca_11 (av := []) (o := x0) (st := []) dX13_readFresh_38 lk_X13_158 im_X13_goesOn se_X13_goesOn rfl rfl rfl rfl ⟨by decide, by decide⟩ (c_X13_goesOn cx.1 x0) (fun _ => ?_)
    refine sn_lload_n (y := m_X13_readFresh) (pc := 41) dX13_readFresh_41 rfl ?_
    exact sn_lreturn rfl dX13_readFresh_42
  refine sn_aload_n (y := m_X13_readFresh) (pc := 27) dX13_readFresh_27 rfl ?_
  refine sn_iconst (y := m_X13_readFresh) (pc := 28) dX13_readFresh_28 kc_iconst_3 ?_
  refine sn_invV (y := m_X13_readFresh) (pc := 29) ca_11 (av := [vI (3 : Int32)]) (o := x0) (st := []) dX13_readFresh_29 lk_X13_164 im_X13_wrong se_X13_wrong rfl rfl rfl rfl ⟨by decide, by decide⟩ (c_X13_wrong cx.1 x0 (3 : Int32)) (fun _ => ?_)
  refine sn_aload_n (y := m_X13_readFresh) (pc := 32) dX13_readFresh_32 rfl ?_
  refine sn_getJ (y := m_X13_readFresh) (pc := 33) ca_11 rfl fk_X13_130 (fun _ _ _ => rfl) dX13_readFresh_33 (fun r6 => ?_)
  refine sn_lstore_n (y := m_X13_readFresh) (pc := 36) dX13_readFresh_36 rfl ?_
  refine sn_aload_n (y := m_X13_readFresh) (pc := 37) dX13_readFresh_37 rfl ?_
  refine sn_invV (y := m_X13_readFresh) (pc := 38) ca_11 (av := []) (o := x0) (st := []) dX13_readFresh_38 lk_X13_158 im_X13_goesOn se_X13_goesOn rfl rfl rfl rfl ⟨by decide, by decide⟩ (c_X13_goesOn cx.1 x0) (fun _ => ?_)
  refine sn_lload_n (y := m_X13_readFresh) (pc := 41) dX13_readFresh_41 rfl ?_
  exact sn_lreturn rfl dX13_readFresh_42
def f_X13_readFresh (p0 : (Option Nat)) : Mo Int64 :=
  mBd (mCk 11 p0 (f_X13_isName p0)) (fun r1 => (if ¬ r1 = 0 then f_X13_readFresh_j12 p0 else mBd (mCk 11 p0 (f_X13_wrong p0 (1 : Int32))) (fun _ => f_X13_readFresh_j12 p0)))
set_option maxRecDepth 100000 in
theorem s_X13_readFresh {cx : CX} (p0 : (Option Nat)) : Sn cx m_X13_readFresh eJ 0 [(0, vA p0)] [] (f_X13_readFresh p0) := by
  refine sn_aload_n (y := m_X13_readFresh) (pc := 0) dX13_readFresh_0 rfl ?_
  refine sn_invV (y := m_X13_readFresh) (pc := 1) ca_11 (av := []) (o := p0) (st := []) dX13_readFresh_1 lk_X13_201 im_X13_isName se_X13_isName rfl rfl rfl rfl ⟨by decide, by decide⟩ (c_X13_isName cx.1 p0) (fun r1 => ?_)
  refine sn_if_ne (y := m_X13_readFresh) (pc := 4) (tgt := 12) dX13_readFresh_4 (by decide) (fun _ => ?_) (fun _ => ?_)
  · exact sn_sub rfl (s_X13_readFresh_j12 p0)
  refine sn_aload_n (y := m_X13_readFresh) (pc := 7) dX13_readFresh_7 rfl ?_
  refine sn_iconst (y := m_X13_readFresh) (pc := 8) dX13_readFresh_8 kc_iconst_1 ?_
  refine sn_invV (y := m_X13_readFresh) (pc := 9) ca_11 (av := [vI (1 : Int32)]) (o := p0) (st := []) dX13_readFresh_9 lk_X13_164 im_X13_wrong se_X13_wrong rfl rfl rfl rfl ⟨by decide, by decide⟩ (c_X13_wrong cx.1 p0 (1 : Int32)) (fun _ => ?_)
  exact sn_sub rfl (s_X13_readFresh_j12 p0)
set_option maxRecDepth 100000 in
theorem c_X13_readFresh (g : Gl) (p0 : (Option Nat)) : Cn g m_X13_readFresh eJ [vA p0] (mCk 11 p0 (f_X13_readFresh p0)) := cn_of_sn (by decide +kernel) rfl (fun r => ⟨r, rfl⟩) rfl (fun _ _ => sn_ck (s_X13_readFresh p0))
/-! X13_names -/
def f_X13_names (p0 : (Option Nat)) (p1 : Int64) (p3 : Int32) (p4 : Int32) : Mo Unit :=
  mBd (mGetA 11 4 p0) (fun r1 => mBd (mGetA 9 12 r1) (fun r2 => mBd (mGetA 11 4 p0) (fun r3 => mBd (mGetI 9 3 r3) (fun r4 => mBd (mStJ r2 r4 p1) (fun _ => mBd (mGetA 11 4 p0) (fun r5 => mBd (mGetA 9 13 r5) (fun r6 => mBd (mGetA 11 4 p0) (fun r7 => mBd (mGetI 9 3 r7) (fun r8 => mBd (mStI r6 r8 p3) (fun _ => mBd (mGetA 11 4 p0) (fun r9 => mBd (mGetA 9 14 r9) (fun r10 => mBd (mGetA 11 4 p0) (fun r11 => mBd (mGetI 9 3 r11) (fun r12 => mBd (mStI r10 r12 p4) (fun _ => mBd (mGetA 11 4 p0) (fun r13 => mBd (mGetI 9 3 r13) (fun r14 => mBd (mPutI 9 3 r13 (r14 + (1 : Int32))) (fun _ => mRt ()))))))))))))))))))
set_option maxRecDepth 100000 in
theorem s_X13_names {cx : CX} (p0 : (Option Nat)) (p1 : Int64) (p3 : Int32) (p4 : Int32) : Sn cx m_X13_names eV 0 [(0, vA p0), (1, vJ p1), (3, vI p3), (4, vI p4)] [] (f_X13_names p0 p1 p3 p4) := by
  refine sn_aload_n (y := m_X13_names) (pc := 0) dX13_names_0 rfl ?_
  refine sn_getA (y := m_X13_names) (pc := 1) ca_11 rfl fk_X13_205 (fun _ _ _ => rfl) dX13_names_1 (fun r1 => ?_)
  refine sn_getA (y := m_X13_names) (pc := 4) ca_9 rfl fk_X13_215 (fun _ _ _ => rfl) dX13_names_4 (fun r2 => ?_)
  refine sn_aload_n (y := m_X13_names) (pc := 7) dX13_names_7 rfl ?_
  refine sn_getA (y := m_X13_names) (pc := 8) ca_11 rfl fk_X13_205 (fun _ _ _ => rfl) dX13_names_8 (fun r3 => ?_)
  refine sn_getI (y := m_X13_names) (pc := 11) ca_9 rfl fk_X13_218 (fun _ _ _ => rfl) dX13_names_11 (fun r4 => ?_)
  refine sn_lload_n (y := m_X13_names) (pc := 14) dX13_names_14 rfl ?_
  refine sn_lastore (y := m_X13_names) (pc := 15) dX13_names_15 ?_
  refine sn_aload_n (y := m_X13_names) (pc := 16) dX13_names_16 rfl ?_
  refine sn_getA (y := m_X13_names) (pc := 17) ca_11 rfl fk_X13_205 (fun _ _ _ => rfl) dX13_names_17 (fun r5 => ?_)
  refine sn_getA (y := m_X13_names) (pc := 20) ca_9 rfl fk_X13_221 (fun _ _ _ => rfl) dX13_names_20 (fun r6 => ?_)
  refine sn_aload_n (y := m_X13_names) (pc := 23) dX13_names_23 rfl ?_
  refine sn_getA (y := m_X13_names) (pc := 24) ca_11 rfl fk_X13_205 (fun _ _ _ => rfl) dX13_names_24 (fun r7 => ?_)
  refine sn_getI (y := m_X13_names) (pc := 27) ca_9 rfl fk_X13_218 (fun _ _ _ => rfl) dX13_names_27 (fun r8 => ?_)
  refine sn_iload_n (y := m_X13_names) (pc := 30) dX13_names_30 rfl ?_
  refine sn_iastore (y := m_X13_names) (pc := 31) dX13_names_31 ?_
  refine sn_aload_n (y := m_X13_names) (pc := 32) dX13_names_32 rfl ?_
  refine sn_getA (y := m_X13_names) (pc := 33) ca_11 rfl fk_X13_205 (fun _ _ _ => rfl) dX13_names_33 (fun r9 => ?_)
  refine sn_getA (y := m_X13_names) (pc := 36) ca_9 rfl fk_X13_224 (fun _ _ _ => rfl) dX13_names_36 (fun r10 => ?_)
  refine sn_aload_n (y := m_X13_names) (pc := 39) dX13_names_39 rfl ?_
  refine sn_getA (y := m_X13_names) (pc := 40) ca_11 rfl fk_X13_205 (fun _ _ _ => rfl) dX13_names_40 (fun r11 => ?_)
  refine sn_getI (y := m_X13_names) (pc := 43) ca_9 rfl fk_X13_218 (fun _ _ _ => rfl) dX13_names_43 (fun r12 => ?_)
  refine sn_iload (y := m_X13_names) (pc := 46) dX13_names_46 rfl ?_
  refine sn_iastore (y := m_X13_names) (pc := 48) dX13_names_48 ?_
  refine sn_aload_n (y := m_X13_names) (pc := 49) dX13_names_49 rfl ?_
  refine sn_getA (y := m_X13_names) (pc := 50) ca_11 rfl fk_X13_205 (fun _ _ _ => rfl) dX13_names_50 (fun r13 => ?_)
  refine sn_dup (y := m_X13_names) (pc := 53) rfl dX13_names_53 ?_
  refine sn_getI (y := m_X13_names) (pc := 54) ca_9 rfl fk_X13_218 (fun _ _ _ => rfl) dX13_names_54 (fun r14 => ?_)
  refine sn_iconst (y := m_X13_names) (pc := 57) dX13_names_57 kc_iconst_1 ?_
  refine sn_iadd (y := m_X13_names) (pc := 58) dX13_names_58 ?_
  refine sn_putI (y := m_X13_names) (pc := 59) ca_9 rfl fk_X13_218 (Or.inl rfl) rfl dX13_names_59 ?_
  exact sn_return rfl dX13_names_62
set_option maxRecDepth 100000 in
theorem c_X13_names (g : Gl) (p0 : (Option Nat)) (p1 : Int64) (p3 : Int32) (p4 : Int32) : Cn g m_X13_names eV [vA p0, vJ p1, vI p3, vI p4] (mCk 11 p0 (f_X13_names p0 p1 p3 p4)) := cn_of_sn (by decide +kernel) rfl (fun _ => rfl) rfl (fun _ _ => sn_ck (s_X13_names p0 p1 p3 p4))
/-! X13_readField -/
def f_X13_readField_j52 (x0 : (Option Nat)) (x1 : Int32) : Mo Int32 :=
  mBd (mGetI 11 11 x0) (fun r5 => (if ¬ r5 = (5 : Int32) then mBd (mGetA 11 4 x0) (fun r6 => mBd (mGetA 9 14 r6) (fun r7 => mBd (mLdI 1 r7 x1) (fun r8 => mBd (mCk 11 x0 (f_X13_goesOn x0)) (fun _ => mRt r8)))) else mBd (mCk 11 x0 (f_X13_goesOn x0)) (fun _ => mRt (-1 : Int32))))
set_option maxRecDepth 100000 in
theorem s_X13_readField_j52 {cx : CX} (x0 : (Option Nat)) (x1 : Int32) : Sn cx m_X13_readField eI 52 [(0, vA x0), (1, vI x1)] [] (f_X13_readField_j52 x0 x1) := by
  refine sn_aload_n (y := m_X13_readField) (pc := 52) dX13_readField_52 rfl ?_
  refine sn_getI (y := m_X13_readField) (pc := 53) ca_11 rfl fk_X13_111 (fun _ _ _ => rfl) dX13_readField_53 (fun r5 => ?_)
  refine sn_iconst (y := m_X13_readField) (pc := 56) dX13_readField_56 kc_iconst_5 ?_
  refine sn_icmp_ne (y := m_X13_readField) (pc := 57) (tgt := 64) dX13_readField_57 (by decide) (fun _ => ?_) (fun _ => ?_)
  · refine sn_aload_n (y := m_X13_readField) (pc := 64) dX13_readField_64 rfl ?_
    refine sn_getA (y := m_X13_readField) (pc := 65) ca_11 rfl fk_X13_205 (fun _ _ _ => rfl) dX13_readField_65 (fun r6 => ?_)
    refine sn_getA (y := m_X13_readField) (pc := 68) ca_9 rfl fk_X13_224 (fun _ _ _ => rfl) dX13_readField_68 (fun r7 => ?_)
    refine sn_iload_n (y := m_X13_readField) (pc := 71) dX13_readField_71 rfl ?_
    refine sn_iaload (y := m_X13_readField) (pc := 72) dX13_readField_72 (fun r8 => ?_)
    refine sn_istore_n (y := m_X13_readField) (pc := 73) dX13_readField_73 rfl ?_
    refine sn_aload_n (y := m_X13_readField) (pc := 74) dX13_readField_74 rfl ?_
    refine sn_invV (y := m_X13_readField) (pc := 75) ca_11 (av := []) (o := x0) (st := []) dX13_readField_75 lk_X13_158 im_X13_goesOn se_X13_goesOn rfl rfl rfl rfl ⟨by decide, by decide⟩ (c_X13_goesOn cx.1 x0) (fun _ => ?_)
    refine sn_iload_n (y := m_X13_readField) (pc := 78) dX13_readField_78 rfl ?_
    exact sn_ireturn rfl dX13_readField_79
  refine sn_iconst (y := m_X13_readField) (pc := 60) dX13_readField_60 kc_iconst_m1 ?_
  refine sn_goto (y := m_X13_readField) (pc := 61) (tgt := 73) dX13_readField_61 (by decide) ?_
  refine sn_istore_n (y := m_X13_readField) (pc := 73) dX13_readField_73 rfl ?_
  refine sn_aload_n (y := m_X13_readField) (pc := 74) dX13_readField_74 rfl ?_
  refine sn_invV (y := m_X13_readField) (pc := 75) ca_11 (av := []) (o := x0) (st := []) dX13_readField_75 lk_X13_158 im_X13_goesOn se_X13_goesOn rfl rfl rfl rfl ⟨by decide, by decide⟩ (c_X13_goesOn cx.1 x0) (fun _ => ?_)
  refine sn_iload_n (y := m_X13_readField) (pc := 78) dX13_readField_78 rfl ?_
  exact sn_ireturn rfl dX13_readField_79
def f_X13_readField_j47 (x0 : (Option Nat)) (x1 : Int32) : Mo Int32 :=
  mBd (mCk 11 x0 (f_X13_wrong x0 (2 : Int32))) (fun _ => f_X13_readField_j52 x0 x1)
set_option maxRecDepth 100000 in
theorem s_X13_readField_j47 {cx : CX} (x0 : (Option Nat)) (x1 : Int32) : Sn cx m_X13_readField eI 47 [(0, vA x0), (1, vI x1)] [] (f_X13_readField_j47 x0 x1) := by
  refine sn_aload_n (y := m_X13_readField) (pc := 47) dX13_readField_47 rfl ?_
  refine sn_iconst (y := m_X13_readField) (pc := 48) dX13_readField_48 kc_iconst_2 ?_
  refine sn_invV (y := m_X13_readField) (pc := 49) ca_11 (av := [vI (2 : Int32)]) (o := x0) (st := []) dX13_readField_49 lk_X13_164 im_X13_wrong se_X13_wrong rfl rfl rfl rfl ⟨by decide, by decide⟩ (c_X13_wrong cx.1 x0 (2 : Int32)) (fun _ => ?_)
  exact sn_sub rfl (s_X13_readField_j52 x0 x1)
def f_X13_readField_j18 (x0 : (Option Nat)) : Mo Int32 :=
  mBd (mGetA 11 4 x0) (fun r2 => mBd (mGetJ 11 17 x0) (fun r3 => mBd (mCk 9 r2 (f_X11_find r2 r3)) (fun r4 => (if r4 = (-1 : Int32) then f_X13_readField_j47 x0 r4 else mBd (mGetA 11 4 x0) (fun r9 => mBd (mGetA 9 13 r9) (fun r10 => mBd (mLdI 1 r10 r4) (fun r11 => (if r11 = 0 then f_X13_readField_j52 x0 r4 else f_X13_readField_j47 x0 r4))))))))
set_option maxRecDepth 100000 in
theorem s_X13_readField_j18 {cx : CX} (x0 : (Option Nat)) : Sn cx m_X13_readField eI 18 [(0, vA x0)] [] (f_X13_readField_j18 x0) := by
  refine sn_aload_n (y := m_X13_readField) (pc := 18) dX13_readField_18 rfl ?_
  refine sn_getA (y := m_X13_readField) (pc := 19) ca_11 rfl fk_X13_205 (fun _ _ _ => rfl) dX13_readField_19 (fun r2 => ?_)
  refine sn_aload_n (y := m_X13_readField) (pc := 22) dX13_readField_22 rfl ?_
  refine sn_getJ (y := m_X13_readField) (pc := 23) ca_11 rfl fk_X13_130 (fun _ _ _ => rfl) dX13_readField_23 (fun r3 => ?_)
  refine sn_invV (y := m_X13_readField) (pc := 26) ca_9 (av := [vJ r3]) (o := r2) (st := []) dX13_readField_26 lk_X13_209 im_X11_find se_X11_find rfl rfl rfl rfl ⟨by decide, by decide⟩ (c_X11_find cx.1 r2 r3) (fun r4 => ?_)
  refine sn_istore_n (y := m_X13_readField) (pc := 29) dX13_readField_29 rfl ?_
  refine sn_iload_n (y := m_X13_readField) (pc := 30) dX13_readField_30 rfl ?_
  refine sn_iconst (y := m_X13_readField) (pc := 31) dX13_readField_31 kc_iconst_m1 ?_
  refine sn_icmp_eq (y := m_X13_readField) (pc := 32) (tgt := 47) dX13_readField_32 (by decide) (fun _ => ?_) (fun _ => ?_)
  · exact sn_sub rfl (s_X13_readField_j47 x0 r4)
  refine sn_aload_n (y := m_X13_readField) (pc := 35) dX13_readField_35 rfl ?_
  refine sn_getA (y := m_X13_readField) (pc := 36) ca_11 rfl fk_X13_205 (fun _ _ _ => rfl) dX13_readField_36 (fun r9 => ?_)
  refine sn_getA (y := m_X13_readField) (pc := 39) ca_9 rfl fk_X13_221 (fun _ _ _ => rfl) dX13_readField_39 (fun r10 => ?_)
  refine sn_iload_n (y := m_X13_readField) (pc := 42) dX13_readField_42 rfl ?_
  refine sn_iaload (y := m_X13_readField) (pc := 43) dX13_readField_43 (fun r11 => ?_)
  refine sn_if_eq (y := m_X13_readField) (pc := 44) (tgt := 52) dX13_readField_44 (by decide) (fun _ => ?_) (fun _ => ?_)
  · exact sn_sub rfl (s_X13_readField_j52 x0 r4)
  exact sn_sub rfl (s_X13_readField_j47 x0 r4)
def f_X13_readField (p0 : (Option Nat)) : Mo Int32 :=
  mBd (mCk 11 p0 (f_X13_needs p0 ((some 10)))) (fun _ => mBd (mCk 11 p0 (f_X13_isName p0)) (fun r1 => (if ¬ r1 = 0 then f_X13_readField_j18 p0 else mBd (mCk 11 p0 (f_X13_wrong p0 (1 : Int32))) (fun _ => f_X13_readField_j18 p0))))
set_option maxRecDepth 100000 in
theorem s_X13_readField {cx : CX} (p0 : (Option Nat)) : Sn cx m_X13_readField eI 0 [(0, vA p0)] [] (f_X13_readField p0) := by
  refine sn_aload_n (y := m_X13_readField) (pc := 0) dX13_readField_0 rfl ?_
  refine sn_ldcS (y := m_X13_readField) (pc := 1) (i := 7) rfl (by decide) dX13_readField_1 ?_
  refine sn_invV (y := m_X13_readField) (pc := 3) ca_11 (av := [vA ((some 10))]) (o := p0) (st := []) dX13_readField_3 lk_X13_227 im_X13_needs se_X13_needs rfl rfl rfl rfl ⟨by decide, by decide⟩ (c_X13_needs cx.1 p0 ((some 10))) (fun _ => ?_)
  refine sn_aload_n (y := m_X13_readField) (pc := 6) dX13_readField_6 rfl ?_
  refine sn_invV (y := m_X13_readField) (pc := 7) ca_11 (av := []) (o := p0) (st := []) dX13_readField_7 lk_X13_201 im_X13_isName se_X13_isName rfl rfl rfl rfl ⟨by decide, by decide⟩ (c_X13_isName cx.1 p0) (fun r1 => ?_)
  refine sn_if_ne (y := m_X13_readField) (pc := 10) (tgt := 18) dX13_readField_10 (by decide) (fun _ => ?_) (fun _ => ?_)
  · exact sn_sub rfl (s_X13_readField_j18 p0)
  refine sn_aload_n (y := m_X13_readField) (pc := 13) dX13_readField_13 rfl ?_
  refine sn_iconst (y := m_X13_readField) (pc := 14) dX13_readField_14 kc_iconst_1 ?_
  refine sn_invV (y := m_X13_readField) (pc := 15) ca_11 (av := [vI (1 : Int32)]) (o := p0) (st := []) dX13_readField_15 lk_X13_164 im_X13_wrong se_X13_wrong rfl rfl rfl rfl ⟨by decide, by decide⟩ (c_X13_wrong cx.1 p0 (1 : Int32)) (fun _ => ?_)
  exact sn_sub rfl (s_X13_readField_j18 p0)
set_option maxRecDepth 100000 in
theorem c_X13_readField (g : Gl) (p0 : (Option Nat)) : Cn g m_X13_readField eI [vA p0] (mCk 11 p0 (f_X13_readField p0)) := cn_of_sn (by decide +kernel) rfl (fun r => ⟨r, rfl⟩) rfl (fun _ _ => sn_ck (s_X13_readField p0))
/-! X13_readFieldLine -/
def f_X13_readFieldLine_j71 (x0 : (Option Nat)) (x1 : Int64) (x3 : Int32) (x4 : Int32) : Mo Unit :=
  mBd (mCk 11 x0 (f_X13_goesOn x0)) (fun _ => mBd (mGetI 11 11 x0) (fun r7 => (if ¬ r7 = (5 : Int32) then mBd (mGetA 11 4 x0) (fun r8 => mBd (mGetA 9 4 r8) (fun r9 => mBd (mGetA 11 4 x0) (fun r10 => mBd (mGetI 9 0 r10) (fun r11 => mBd (mNew 10) (fun r12 => mBd (mCk 10 r12 (f_X12_init r12 x3 x4)) (fun _ => mBd (mStA 7 r9 r11 r12) (fun _ => mBd (mGetA 11 4 x0) (fun r13 => mBd (mGetI 9 0 r13) (fun r14 => mBd (mCk 11 x0 (f_X13_names x0 x1 (0 : Int32) r14)) (fun _ => mBd (mGetA 11 4 x0) (fun r15 => mBd (mGetI 9 0 r15) (fun r16 => mBd (mPutI 9 0 r15 (r16 + (1 : Int32))) (fun _ => mRt ()))))))))))))) else mRt ())))
set_option maxRecDepth 100000 in
theorem s_X13_readFieldLine_j71 {cx : CX} (x0 : (Option Nat)) (x1 : Int64) (x3 : Int32) (x4 : Int32) : Sn cx m_X13_readFieldLine eV 71 [(0, vA x0), (1, vJ x1), (3, vI x3), (4, vI x4)] [] (f_X13_readFieldLine_j71 x0 x1 x3 x4) := by
  refine sn_aload_n (y := m_X13_readFieldLine) (pc := 71) dX13_readFieldLine_71 rfl ?_
  refine sn_invV (y := m_X13_readFieldLine) (pc := 72) ca_11 (av := []) (o := x0) (st := []) dX13_readFieldLine_72 lk_X13_158 im_X13_goesOn se_X13_goesOn rfl rfl rfl rfl ⟨by decide, by decide⟩ (c_X13_goesOn cx.1 x0) (fun _ => ?_)
  refine sn_aload_n (y := m_X13_readFieldLine) (pc := 75) dX13_readFieldLine_75 rfl ?_
  refine sn_getI (y := m_X13_readFieldLine) (pc := 76) ca_11 rfl fk_X13_111 (fun _ _ _ => rfl) dX13_readFieldLine_76 (fun r7 => ?_)
  refine sn_iconst (y := m_X13_readFieldLine) (pc := 79) dX13_readFieldLine_79 kc_iconst_5 ?_
  refine sn_icmp_ne (y := m_X13_readFieldLine) (pc := 80) (tgt := 84) dX13_readFieldLine_80 (by decide) (fun _ => ?_) (fun _ => ?_)
  · refine sn_aload_n (y := m_X13_readFieldLine) (pc := 84) dX13_readFieldLine_84 rfl ?_
    refine sn_getA (y := m_X13_readFieldLine) (pc := 85) ca_11 rfl fk_X13_205 (fun _ _ _ => rfl) dX13_readFieldLine_85 (fun r8 => ?_)
    refine sn_getA (y := m_X13_readFieldLine) (pc := 88) ca_9 rfl fk_X13_259 (fun _ _ _ => rfl) dX13_readFieldLine_88 (fun r9 => ?_)
    refine sn_aload_n (y := m_X13_readFieldLine) (pc := 91) dX13_readFieldLine_91 rfl ?_
    refine sn_getA (y := m_X13_readFieldLine) (pc := 92) ca_11 rfl fk_X13_205 (fun _ _ _ => rfl) dX13_readFieldLine_92 (fun r10 => ?_)
    refine sn_getI (y := m_X13_readFieldLine) (pc := 95) ca_9 rfl fk_X13_237 (fun _ _ _ => rfl) dX13_readFieldLine_95 (fun r11 => ?_)
    refine sn_new (y := m_X13_readFieldLine) (pc := 98) ca_10 nk_X13_60 dX13_readFieldLine_98 (fun r12 => ?_)
    refine sn_dup (y := m_X13_readFieldLine) (pc := 101) rfl dX13_readFieldLine_101 ?_
    refine sn_iload_n (y := m_X13_readFieldLine) (pc := 102) dX13_readFieldLine_102 rfl ?_
    refine sn_iload (y := m_X13_readFieldLine) (pc := 103) dX13_readFieldLine_103 rfl ?_
    refine sn_invI (y := m_X13_readFieldLine) (pc := 105) (c := 10) (av := [vI x3, vI x4]) (o := r12) (st := [vA r12, vI r11, vA r9]) dX13_readFieldLine_105 (Or.inl lk_X13_262) im_X12_init rfl rfl rfl rfl rfl ⟨by decide, by decide⟩ (c_X12_init cx.1 r12 x3 x4) (fun _ => ?_)
    refine sn_aastore (y := m_X13_readFieldLine) (pc := 108) dX13_readFieldLine_108 ?_
    refine sn_aload_n (y := m_X13_readFieldLine) (pc := 109) dX13_readFieldLine_109 rfl ?_
    refine sn_lload_n (y := m_X13_readFieldLine) (pc := 110) dX13_readFieldLine_110 rfl ?_
    refine sn_iconst (y := m_X13_readFieldLine) (pc := 111) dX13_readFieldLine_111 kc_iconst_0 ?_
    refine sn_aload_n (y := m_X13_readFieldLine) (pc := 112) dX13_readFieldLine_112 rfl ?_
    refine sn_getA (y := m_X13_readFieldLine) (pc := 113) ca_11 rfl fk_X13_205 (fun _ _ _ => rfl) dX13_readFieldLine_113 (fun r13 => ?_)
    refine sn_getI (y := m_X13_readFieldLine) (pc := 116) ca_9 rfl fk_X13_237 (fun _ _ _ => rfl) dX13_readFieldLine_116 (fun r14 => ?_)
    refine sn_invV (y := m_X13_readFieldLine) (pc := 119) ca_11 (av := [vJ x1, vI (0 : Int32), vI r14]) (o := x0) (st := []) dX13_readFieldLine_119 lk_X13_264 im_X13_names se_X13_names rfl rfl rfl rfl ⟨by decide, by decide⟩ (c_X13_names cx.1 x0 x1 (0 : Int32) r14) (fun _ => ?_)
    refine sn_aload_n (y := m_X13_readFieldLine) (pc := 122) dX13_readFieldLine_122 rfl ?_
    refine sn_getA (y := m_X13_readFieldLine) (pc := 123) ca_11 rfl fk_X13_205 (fun _ _ _ => rfl) dX13_readFieldLine_123 (fun r15 => ?_)
    refine sn_dup (y := m_X13_readFieldLine) (pc := 126) rfl dX13_readFieldLine_126 ?_
    refine sn_getI (y := m_X13_readFieldLine) (pc := 127) ca_9 rfl fk_X13_237 (fun _ _ _ => rfl) dX13_readFieldLine_127 (fun r16 => ?_)
    refine sn_iconst (y := m_X13_readFieldLine) (pc := 130) dX13_readFieldLine_130 kc_iconst_1 ?_
    refine sn_iadd (y := m_X13_readFieldLine) (pc := 131) dX13_readFieldLine_131 ?_
    refine sn_putI (y := m_X13_readFieldLine) (pc := 132) ca_9 rfl fk_X13_237 (Or.inl rfl) rfl dX13_readFieldLine_132 ?_
    exact sn_return rfl dX13_readFieldLine_135
  exact sn_return rfl dX13_readFieldLine_83
def f_X13_readFieldLine_j38 (x0 : (Option Nat)) (x1 : Int64) (x3 : Int32) : Mo Unit :=
  mBd (mCk 11 x0 (f_X13_goesOn x0)) (fun _ => mBd (mCk 11 x0 (f_X13_needs x0 ((some 9)))) (fun _ => mBd (mCk 11 x0 (f_X13_bounded x0 (2 : Int32) (12 : Int32))) (fun r6 => mRq (¬ r6 = 0) ((if (irem (x3 - (1 : Int32)) r6) = 0 then f_X13_readFieldLine_j71 x0 x1 x3 r6 else mBd (mCk 11 x0 (f_X13_wrong x0 (4 : Int32))) (fun _ => f_X13_readFieldLine_j71 x0 x1 x3 r6))))))
set_option maxRecDepth 100000 in
theorem s_X13_readFieldLine_j38 {cx : CX} (x0 : (Option Nat)) (x1 : Int64) (x3 : Int32) : Sn cx m_X13_readFieldLine eV 38 [(0, vA x0), (1, vJ x1), (3, vI x3)] [] (f_X13_readFieldLine_j38 x0 x1 x3) := by
  refine sn_aload_n (y := m_X13_readFieldLine) (pc := 38) dX13_readFieldLine_38 rfl ?_
  refine sn_invV (y := m_X13_readFieldLine) (pc := 39) ca_11 (av := []) (o := x0) (st := []) dX13_readFieldLine_39 lk_X13_158 im_X13_goesOn se_X13_goesOn rfl rfl rfl rfl ⟨by decide, by decide⟩ (c_X13_goesOn cx.1 x0) (fun _ => ?_)
  refine sn_aload_n (y := m_X13_readFieldLine) (pc := 42) dX13_readFieldLine_42 rfl ?_
  refine sn_ldcS (y := m_X13_readFieldLine) (pc := 43) (i := 6) rfl (by decide) dX13_readFieldLine_43 ?_
  refine sn_invV (y := m_X13_readFieldLine) (pc := 45) ca_11 (av := [vA ((some 9))]) (o := x0) (st := []) dX13_readFieldLine_45 lk_X13_227 im_X13_needs se_X13_needs rfl rfl rfl rfl ⟨by decide, by decide⟩ (c_X13_needs cx.1 x0 ((some 9))) (fun _ => ?_)
  refine sn_aload_n (y := m_X13_readFieldLine) (pc := 48) dX13_readFieldLine_48 rfl ?_
  refine sn_iconst (y := m_X13_readFieldLine) (pc := 49) dX13_readFieldLine_49 kc_iconst_2 ?_
  refine sn_bipush (y := m_X13_readFieldLine) (pc := 50) dX13_readFieldLine_50 kc_bipush_12 ?_
  refine sn_invV (y := m_X13_readFieldLine) (pc := 52) ca_11 (av := [vI (2 : Int32), vI (12 : Int32)]) (o := x0) (st := []) dX13_readFieldLine_52 lk_X13_172 im_X13_bounded se_X13_bounded rfl rfl rfl rfl ⟨by decide, by decide⟩ (c_X13_bounded cx.1 x0 (2 : Int32) (12 : Int32)) (fun r6 => ?_)
  refine sn_istore (y := m_X13_readFieldLine) (pc := 55) dX13_readFieldLine_55 rfl ?_
  refine sn_iload_n (y := m_X13_readFieldLine) (pc := 57) dX13_readFieldLine_57 rfl ?_
  refine sn_iconst (y := m_X13_readFieldLine) (pc := 58) dX13_readFieldLine_58 kc_iconst_1 ?_
  refine sn_isub (y := m_X13_readFieldLine) (pc := 59) dX13_readFieldLine_59 ?_
  refine sn_iload (y := m_X13_readFieldLine) (pc := 60) dX13_readFieldLine_60 rfl ?_
  refine sn_irem (y := m_X13_readFieldLine) (pc := 62) dX13_readFieldLine_62 ?_
  refine sn_if_eq (y := m_X13_readFieldLine) (pc := 63) (tgt := 71) dX13_readFieldLine_63 (by decide) (fun _ => ?_) (fun _ => ?_)
  · exact sn_sub rfl (s_X13_readFieldLine_j71 x0 x1 x3 r6)
  refine sn_aload_n (y := m_X13_readFieldLine) (pc := 66) dX13_readFieldLine_66 rfl ?_
  refine sn_iconst (y := m_X13_readFieldLine) (pc := 67) dX13_readFieldLine_67 kc_iconst_4 ?_
  refine sn_invV (y := m_X13_readFieldLine) (pc := 68) ca_11 (av := [vI (4 : Int32)]) (o := x0) (st := []) dX13_readFieldLine_68 lk_X13_164 im_X13_wrong se_X13_wrong rfl rfl rfl rfl ⟨by decide, by decide⟩ (c_X13_wrong cx.1 x0 (4 : Int32)) (fun _ => ?_)
  exact sn_sub rfl (s_X13_readFieldLine_j71 x0 x1 x3 r6)
def f_X13_readFieldLine (p0 : (Option Nat)) : Mo Unit :=
  mBd (mGetA 11 4 p0) (fun r1 => mBd (mGetI 9 0 r1) (fun r2 => mBd (mCk 11 p0 (f_X13_begins p0 r2 (4 : Int32))) (fun _ => mBd (mCk 11 p0 (f_X13_readFresh p0)) (fun r3 => mBd (mCk 11 p0 (f_X13_bounded p0 (3 : Int32) (199 : Int32))) (fun r4 => mBd (f_X13_isPrime r4) (fun r5 => (if ¬ r5 = 0 then f_X13_readFieldLine_j38 p0 r3 r4 else mBd (mCk 11 p0 (f_X13_wrong p0 (4 : Int32))) (fun _ => f_X13_readFieldLine_j38 p0 r3 r4))))))))
set_option maxRecDepth 100000 in
theorem s_X13_readFieldLine {cx : CX} (p0 : (Option Nat)) : Sn cx m_X13_readFieldLine eV 0 [(0, vA p0)] [] (f_X13_readFieldLine p0) := by
  refine sn_aload_n (y := m_X13_readFieldLine) (pc := 0) dX13_readFieldLine_0 rfl ?_
  refine sn_aload_n (y := m_X13_readFieldLine) (pc := 1) dX13_readFieldLine_1 rfl ?_
  refine sn_getA (y := m_X13_readFieldLine) (pc := 2) ca_11 rfl fk_X13_205 (fun _ _ _ => rfl) dX13_readFieldLine_2 (fun r1 => ?_)
  refine sn_getI (y := m_X13_readFieldLine) (pc := 5) ca_9 rfl fk_X13_237 (fun _ _ _ => rfl) dX13_readFieldLine_5 (fun r2 => ?_)
  refine sn_iconst (y := m_X13_readFieldLine) (pc := 8) dX13_readFieldLine_8 kc_iconst_4 ?_
  refine sn_invV (y := m_X13_readFieldLine) (pc := 9) ca_11 (av := [vI r2, vI (4 : Int32)]) (o := p0) (st := []) dX13_readFieldLine_9 lk_X13_249 im_X13_begins se_X13_begins rfl rfl rfl rfl ⟨by decide, by decide⟩ (c_X13_begins cx.1 p0 r2 (4 : Int32)) (fun _ => ?_)
  refine sn_aload_n (y := m_X13_readFieldLine) (pc := 12) dX13_readFieldLine_12 rfl ?_
  refine sn_invV (y := m_X13_readFieldLine) (pc := 13) ca_11 (av := []) (o := p0) (st := []) dX13_readFieldLine_13 lk_X13_252 im_X13_readFresh se_X13_readFresh rfl rfl rfl rfl ⟨by decide, by decide⟩ (c_X13_readFresh cx.1 p0) (fun r3 => ?_)
  refine sn_lstore_n (y := m_X13_readFieldLine) (pc := 16) dX13_readFieldLine_16 rfl ?_
  refine sn_aload_n (y := m_X13_readFieldLine) (pc := 17) dX13_readFieldLine_17 rfl ?_
  refine sn_iconst (y := m_X13_readFieldLine) (pc := 18) dX13_readFieldLine_18 kc_iconst_3 ?_
  refine sn_sipush (y := m_X13_readFieldLine) (pc := 19) dX13_readFieldLine_19 kc_sipush_199 ?_
  refine sn_invV (y := m_X13_readFieldLine) (pc := 22) ca_11 (av := [vI (3 : Int32), vI (199 : Int32)]) (o := p0) (st := []) dX13_readFieldLine_22 lk_X13_172 im_X13_bounded se_X13_bounded rfl rfl rfl rfl ⟨by decide, by decide⟩ (c_X13_bounded cx.1 p0 (3 : Int32) (199 : Int32)) (fun r4 => ?_)
  refine sn_istore_n (y := m_X13_readFieldLine) (pc := 25) dX13_readFieldLine_25 rfl ?_
  refine sn_iload_n (y := m_X13_readFieldLine) (pc := 26) dX13_readFieldLine_26 rfl ?_
  refine sn_invS (y := m_X13_readFieldLine) (pc := 27) (av := [vI r4]) (st := []) dX13_readFieldLine_27 lk_X13_256 sw_X13_isPrime rfl rfl rfl ⟨by decide, by decide⟩ (c_X13_isPrime cx.1 r4) (fun r5 => ?_)
  refine sn_if_ne (y := m_X13_readFieldLine) (pc := 30) (tgt := 38) dX13_readFieldLine_30 (by decide) (fun _ => ?_) (fun _ => ?_)
  · exact sn_sub rfl (s_X13_readFieldLine_j38 p0 r3 r4)
  refine sn_aload_n (y := m_X13_readFieldLine) (pc := 33) dX13_readFieldLine_33 rfl ?_
  refine sn_iconst (y := m_X13_readFieldLine) (pc := 34) dX13_readFieldLine_34 kc_iconst_4 ?_
  refine sn_invV (y := m_X13_readFieldLine) (pc := 35) ca_11 (av := [vI (4 : Int32)]) (o := p0) (st := []) dX13_readFieldLine_35 lk_X13_164 im_X13_wrong se_X13_wrong rfl rfl rfl rfl ⟨by decide, by decide⟩ (c_X13_wrong cx.1 p0 (4 : Int32)) (fun _ => ?_)
  exact sn_sub rfl (s_X13_readFieldLine_j38 p0 r3 r4)
set_option maxRecDepth 100000 in
theorem c_X13_readFieldLine (g : Gl) (p0 : (Option Nat)) : Cn g m_X13_readFieldLine eV [vA p0] (mCk 11 p0 (f_X13_readFieldLine p0)) := cn_of_sn (by decide +kernel) rfl (fun _ => rfl) rfl (fun _ _ => sn_ck (s_X13_readFieldLine p0))
/-! X13_readEquation -/
def f_X13_readEquation_j205 (x0 : (Option Nat)) (x1 : Int32) (x2 : Int64) (x4 : Int32) (x6 : Int32) (s0 : Int32) : Mo Unit :=
  mBd (mGetI 11 11 x0) (fun r13 => (if ¬ r13 = (5 : Int32) then mBd (mGetA 11 4 x0) (fun r14 => mBd (mGetA 9 5 r14) (fun r15 => mBd (mStI r15 x1 x4) (fun _ => mBd (mGetA 11 4 x0) (fun r16 => mBd (mGetA 9 6 r16) (fun r17 => mBd (mStI r17 x1 x6) (fun _ => mBd (mGetA 11 4 x0) (fun r18 => mBd (mGetA 9 7 r18) (fun r19 => mBd (mStI r19 x1 s0) (fun _ => mBd (mCk 11 x0 (f_X13_names x0 x2 (1 : Int32) x1)) (fun _ => mBd (mGetA 11 4 x0) (fun r20 => mBd (mGetI 9 1 r20) (fun r21 => mBd (mPutI 9 1 r20 (r21 + (1 : Int32))) (fun _ => mRt ()))))))))))))) else mRt ()))
set_option maxRecDepth 100000 in
theorem s_X13_readEquation_j205 {cx : CX} (x0 : (Option Nat)) (x1 : Int32) (x2 : Int64) (x4 : Int32) (x6 : Int32) (s0 : Int32) : Sn cx m_X13_readEquation eV 205 [(0, vA x0), (1, vI x1), (2, vJ x2), (4, vI x4), (6, vI x6)] [vI s0] (f_X13_readEquation_j205 x0 x1 x2 x4 x6 s0) := by
  refine sn_istore (y := m_X13_readEquation) (pc := 205) dX13_readEquation_205 rfl ?_
  refine sn_aload_n (y := m_X13_readEquation) (pc := 207) dX13_readEquation_207 rfl ?_
  refine sn_getI (y := m_X13_readEquation) (pc := 208) ca_11 rfl fk_X13_111 (fun _ _ _ => rfl) dX13_readEquation_208 (fun r13 => ?_)
  refine sn_iconst (y := m_X13_readEquation) (pc := 211) dX13_readEquation_211 kc_iconst_5 ?_
  refine sn_icmp_ne (y := m_X13_readEquation) (pc := 212) (tgt := 216) dX13_readEquation_212 (by decide) (fun _ => ?_) (fun _ => ?_)
  · refine sn_aload_n (y := m_X13_readEquation) (pc := 216) dX13_readEquation_216 rfl ?_
    refine sn_getA (y := m_X13_readEquation) (pc := 217) ca_11 rfl fk_X13_205 (fun _ _ _ => rfl) dX13_readEquation_217 (fun r14 => ?_)
    refine sn_getA (y := m_X13_readEquation) (pc := 220) ca_9 rfl fk_X13_282 (fun _ _ _ => rfl) dX13_readEquation_220 (fun r15 => ?_)
    refine sn_iload_n (y := m_X13_readEquation) (pc := 223) dX13_readEquation_223 rfl ?_
    refine sn_iload (y := m_X13_readEquation) (pc := 224) dX13_readEquation_224 rfl ?_
    refine sn_iastore (y := m_X13_readEquation) (pc := 226) dX13_readEquation_226 ?_
    refine sn_aload_n (y := m_X13_readEquation) (pc := 227) dX13_readEquation_227 rfl ?_
    refine sn_getA (y := m_X13_readEquation) (pc := 228) ca_11 rfl fk_X13_205 (fun _ _ _ => rfl) dX13_readEquation_228 (fun r16 => ?_)
    refine sn_getA (y := m_X13_readEquation) (pc := 231) ca_9 rfl fk_X13_285 (fun _ _ _ => rfl) dX13_readEquation_231 (fun r17 => ?_)
    refine sn_iload_n (y := m_X13_readEquation) (pc := 234) dX13_readEquation_234 rfl ?_
    refine sn_iload (y := m_X13_readEquation) (pc := 235) dX13_readEquation_235 rfl ?_
    refine sn_iastore (y := m_X13_readEquation) (pc := 237) dX13_readEquation_237 ?_
    refine sn_aload_n (y := m_X13_readEquation) (pc := 238) dX13_readEquation_238 rfl ?_
    refine sn_getA (y := m_X13_readEquation) (pc := 239) ca_11 rfl fk_X13_205 (fun _ _ _ => rfl) dX13_readEquation_239 (fun r18 => ?_)
    refine sn_getA (y := m_X13_readEquation) (pc := 242) ca_9 rfl fk_X13_288 (fun _ _ _ => rfl) dX13_readEquation_242 (fun r19 => ?_)
    refine sn_iload_n (y := m_X13_readEquation) (pc := 245) dX13_readEquation_245 rfl ?_
    refine sn_iload (y := m_X13_readEquation) (pc := 246) dX13_readEquation_246 rfl ?_
    refine sn_iastore (y := m_X13_readEquation) (pc := 248) dX13_readEquation_248 ?_
    refine sn_aload_n (y := m_X13_readEquation) (pc := 249) dX13_readEquation_249 rfl ?_
    refine sn_lload_n (y := m_X13_readEquation) (pc := 250) dX13_readEquation_250 rfl ?_
    refine sn_iconst (y := m_X13_readEquation) (pc := 251) dX13_readEquation_251 kc_iconst_1 ?_
    refine sn_iload_n (y := m_X13_readEquation) (pc := 252) dX13_readEquation_252 rfl ?_
    refine sn_invV (y := m_X13_readEquation) (pc := 253) ca_11 (av := [vJ x2, vI (1 : Int32), vI x1]) (o := x0) (st := []) dX13_readEquation_253 lk_X13_264 im_X13_names se_X13_names rfl rfl rfl rfl ⟨by decide, by decide⟩ (c_X13_names cx.1 x0 x2 (1 : Int32) x1) (fun _ => ?_)
    refine sn_aload_n (y := m_X13_readEquation) (pc := 256) dX13_readEquation_256 rfl ?_
    refine sn_getA (y := m_X13_readEquation) (pc := 257) ca_11 rfl fk_X13_205 (fun _ _ _ => rfl) dX13_readEquation_257 (fun r20 => ?_)
    refine sn_dup (y := m_X13_readEquation) (pc := 260) rfl dX13_readEquation_260 ?_
    refine sn_getI (y := m_X13_readEquation) (pc := 261) ca_9 rfl fk_X13_267 (fun _ _ _ => rfl) dX13_readEquation_261 (fun r21 => ?_)
    refine sn_iconst (y := m_X13_readEquation) (pc := 264) dX13_readEquation_264 kc_iconst_1 ?_
    refine sn_iadd (y := m_X13_readEquation) (pc := 265) dX13_readEquation_265 ?_
    refine sn_putI (y := m_X13_readEquation) (pc := 266) ca_9 rfl fk_X13_267 (Or.inl rfl) rfl dX13_readEquation_266 ?_
    exact sn_return rfl dX13_readEquation_269
  exact sn_return rfl dX13_readEquation_215
def f_X13_readEquation_j167 (x0 : (Option Nat)) (x1 : Int32) (x2 : Int64) (x4 : Int32) (x6 : Int32) : Mo Unit :=
  mBd (mCk 11 x0 (f_X13_needs x0 ((some 13)))) (fun _ => mBd (mGetI 11 11 x0) (fun r7 => (if ¬ r7 = (5 : Int32) then mBd (mGetA 11 4 x0) (fun r8 => mBd (mGetA 9 4 r8) (fun r9 => mBd (mLdA 7 r9 x4) (fun r10 => mBd (mGetI 10 0 r10) (fun r11 => mBd (mCk 11 x0 (f_X13_readWhole x0 (0 : Int32) (r11 - (1 : Int32)))) (fun r12 => f_X13_readEquation_j205 x0 x1 x2 x4 x6 r12))))) else f_X13_readEquation_j205 x0 x1 x2 x4 x6 (0 : Int32))))
set_option maxRecDepth 100000 in
theorem s_X13_readEquation_j167 {cx : CX} (x0 : (Option Nat)) (x1 : Int32) (x2 : Int64) (x4 : Int32) (x6 : Int32) : Sn cx m_X13_readEquation eV 167 [(0, vA x0), (1, vI x1), (2, vJ x2), (4, vI x4), (6, vI x6)] [] (f_X13_readEquation_j167 x0 x1 x2 x4 x6) := by
  refine sn_aload_n (y := m_X13_readEquation) (pc := 167) dX13_readEquation_167 rfl ?_
  refine sn_ldcS (y := m_X13_readEquation) (pc := 168) (i := 10) rfl (by decide) dX13_readEquation_168 ?_
  refine sn_invV (y := m_X13_readEquation) (pc := 170) ca_11 (av := [vA ((some 13))]) (o := x0) (st := []) dX13_readEquation_170 lk_X13_227 im_X13_needs se_X13_needs rfl rfl rfl rfl ⟨by decide, by decide⟩ (c_X13_needs cx.1 x0 ((some 13))) (fun _ => ?_)
  refine sn_aload_n (y := m_X13_readEquation) (pc := 173) dX13_readEquation_173 rfl ?_
  refine sn_getI (y := m_X13_readEquation) (pc := 174) ca_11 rfl fk_X13_111 (fun _ _ _ => rfl) dX13_readEquation_174 (fun r7 => ?_)
  refine sn_iconst (y := m_X13_readEquation) (pc := 177) dX13_readEquation_177 kc_iconst_5 ?_
  refine sn_icmp_ne (y := m_X13_readEquation) (pc := 178) (tgt := 185) dX13_readEquation_178 (by decide) (fun _ => ?_) (fun _ => ?_)
  · refine sn_aload_n (y := m_X13_readEquation) (pc := 185) dX13_readEquation_185 rfl ?_
    refine sn_iconst (y := m_X13_readEquation) (pc := 186) dX13_readEquation_186 kc_iconst_0 ?_
    refine sn_aload_n (y := m_X13_readEquation) (pc := 187) dX13_readEquation_187 rfl ?_
    refine sn_getA (y := m_X13_readEquation) (pc := 188) ca_11 rfl fk_X13_205 (fun _ _ _ => rfl) dX13_readEquation_188 (fun r8 => ?_)
    refine sn_getA (y := m_X13_readEquation) (pc := 191) ca_9 rfl fk_X13_259 (fun _ _ _ => rfl) dX13_readEquation_191 (fun r9 => ?_)
    refine sn_iload (y := m_X13_readEquation) (pc := 194) dX13_readEquation_194 rfl ?_
    refine sn_aaload (y := m_X13_readEquation) (pc := 196) dX13_readEquation_196 (fun r10 => ?_)
    refine sn_getI (y := m_X13_readEquation) (pc := 197) ca_10 rfl fk_X13_81 (fun _ _ _ => rfl) dX13_readEquation_197 (fun r11 => ?_)
    refine sn_iconst (y := m_X13_readEquation) (pc := 200) dX13_readEquation_200 kc_iconst_1 ?_
    refine sn_isub (y := m_X13_readEquation) (pc := 201) dX13_readEquation_201 ?_
    refine sn_invV (y := m_X13_readEquation) (pc := 202) ca_11 (av := [vI (0 : Int32), vI (r11 - (1 : Int32))]) (o := x0) (st := []) dX13_readEquation_202 lk_X13_273 im_X13_readWhole se_X13_readWhole rfl rfl rfl rfl ⟨by decide, by decide⟩ (c_X13_readWhole cx.1 x0 (0 : Int32) (r11 - (1 : Int32))) (fun r12 => ?_)
    exact sn_sub rfl (s_X13_readEquation_j205 x0 x1 x2 x4 x6 r12)
  refine sn_iconst (y := m_X13_readEquation) (pc := 181) dX13_readEquation_181 kc_iconst_0 ?_
  refine sn_goto (y := m_X13_readEquation) (pc := 182) (tgt := 205) dX13_readEquation_182 (by decide) ?_
  exact sn_sub rfl (s_X13_readEquation_j205 x0 x1 x2 x4 x6 (0 : Int32))
def f_X13_readEquation_j93 (k43 : Int32 → Int32 → Mo Unit) (x0 : (Option Nat)) (x1 : Int32) (x2 : Int64) (x4 : Int32) (x6 : Int32) (x8 : Int32) : Mo Unit :=
  mBd (mCk 11 x0 (f_X13_goesOn x0)) (fun _ => mBd (mCk 11 x0 (f_X13_needs x0 ((some 12)))) (fun _ => mBd (mCk 11 x0 (f_X13_readWhole x0 (1 : Int32) (12 : Int32))) (fun r28 => mBd (mGetI 11 11 x0) (fun r29 => (if ¬ r29 = (5 : Int32) then mBd (mGetA 11 4 x0) (fun r30 => mBd (mGetA 9 8 r30) (fun r31 => mBd (mStI r31 (((3 : Int32) * x1) + x6) x8) (fun _ => mBd (mGetA 11 4 x0) (fun r32 => mBd (mGetA 9 9 r32) (fun r33 => mBd (mStI r33 (((3 : Int32) * x1) + x6) r28) (fun _ => mBd (mCk 11 x0 (f_X13_eatsSign x0 (44 : Int32))) (fun r34 => k43 r34 (x6 + 1)))))))) else mRt ())))))
set_option maxRecDepth 100000 in
theorem s_X13_readEquation_j93 {cx : CX} {k43 : Int32 → Int32 → Mo Unit} (x0 : (Option Nat)) (x1 : Int32) (x2 : Int64) (x4 : Int32) (x6 : Int32) (x8 : Int32) (hk43 : ∀ (z5 : Int32) (z6 : Int32), Sn cx m_X13_readEquation eV 43 [(5, vI z5), (6, vI z6), (0, vA x0), (1, vI x1), (2, vJ x2), (4, vI x4)] [] (k43 z5 z6)) : Sn cx m_X13_readEquation eV 93 [(0, vA x0), (1, vI x1), (2, vJ x2), (4, vI x4), (6, vI x6), (8, vI x8)] [] (f_X13_readEquation_j93 k43 x0 x1 x2 x4 x6 x8) := by
  refine sn_aload_n (y := m_X13_readEquation) (pc := 93) dX13_readEquation_93 rfl ?_
  refine sn_invV (y := m_X13_readEquation) (pc := 94) ca_11 (av := []) (o := x0) (st := []) dX13_readEquation_94 lk_X13_158 im_X13_goesOn se_X13_goesOn rfl rfl rfl rfl ⟨by decide, by decide⟩ (c_X13_goesOn cx.1 x0) (fun _ => ?_)
  refine sn_aload_n (y := m_X13_readEquation) (pc := 97) dX13_readEquation_97 rfl ?_
  refine sn_ldcS (y := m_X13_readEquation) (pc := 98) (i := 9) rfl (by decide) dX13_readEquation_98 ?_
  refine sn_invV (y := m_X13_readEquation) (pc := 100) ca_11 (av := [vA ((some 12))]) (o := x0) (st := []) dX13_readEquation_100 lk_X13_227 im_X13_needs se_X13_needs rfl rfl rfl rfl ⟨by decide, by decide⟩ (c_X13_needs cx.1 x0 ((some 12))) (fun _ => ?_)
  refine sn_aload_n (y := m_X13_readEquation) (pc := 103) dX13_readEquation_103 rfl ?_
  refine sn_iconst (y := m_X13_readEquation) (pc := 104) dX13_readEquation_104 kc_iconst_1 ?_
  refine sn_bipush (y := m_X13_readEquation) (pc := 105) dX13_readEquation_105 kc_bipush_12 ?_
  refine sn_invV (y := m_X13_readEquation) (pc := 107) ca_11 (av := [vI (1 : Int32), vI (12 : Int32)]) (o := x0) (st := []) dX13_readEquation_107 lk_X13_273 im_X13_readWhole se_X13_readWhole rfl rfl rfl rfl ⟨by decide, by decide⟩ (c_X13_readWhole cx.1 x0 (1 : Int32) (12 : Int32)) (fun r28 => ?_)
  refine sn_istore (y := m_X13_readEquation) (pc := 110) dX13_readEquation_110 rfl ?_
  refine sn_aload_n (y := m_X13_readEquation) (pc := 112) dX13_readEquation_112 rfl ?_
  refine sn_getI (y := m_X13_readEquation) (pc := 113) ca_11 rfl fk_X13_111 (fun _ _ _ => rfl) dX13_readEquation_113 (fun r29 => ?_)
  refine sn_iconst (y := m_X13_readEquation) (pc := 116) dX13_readEquation_116 kc_iconst_5 ?_
  refine sn_icmp_ne (y := m_X13_readEquation) (pc := 117) (tgt := 121) dX13_readEquation_117 (by decide) (fun _ => ?_) (fun _ => ?_)
  · refine sn_aload_n (y := m_X13_readEquation) (pc := 121) dX13_readEquation_121 rfl ?_
    refine sn_getA (y := m_X13_readEquation) (pc := 122) ca_11 rfl fk_X13_205 (fun _ _ _ => rfl) dX13_readEquation_122 (fun r30 => ?_)
    refine sn_getA (y := m_X13_readEquation) (pc := 125) ca_9 rfl fk_X13_276 (fun _ _ _ => rfl) dX13_readEquation_125 (fun r31 => ?_)
    refine sn_iconst (y := m_X13_readEquation) (pc := 128) dX13_readEquation_128 kc_iconst_3 ?_
    refine sn_iload_n (y := m_X13_readEquation) (pc := 129) dX13_readEquation_129 rfl ?_
    refine sn_imul (y := m_X13_readEquation) (pc := 130) dX13_readEquation_130 ?_
    refine sn_iload (y := m_X13_readEquation) (pc := 131) dX13_readEquation_131 rfl ?_
    refine sn_iadd (y := m_X13_readEquation) (pc := 133) dX13_readEquation_133 ?_
    refine sn_iload (y := m_X13_readEquation) (pc := 134) dX13_readEquation_134 rfl ?_
    refine sn_iastore (y := m_X13_readEquation) (pc := 136) dX13_readEquation_136 ?_
    refine sn_aload_n (y := m_X13_readEquation) (pc := 137) dX13_readEquation_137 rfl ?_
    refine sn_getA (y := m_X13_readEquation) (pc := 138) ca_11 rfl fk_X13_205 (fun _ _ _ => rfl) dX13_readEquation_138 (fun r32 => ?_)
    refine sn_getA (y := m_X13_readEquation) (pc := 141) ca_9 rfl fk_X13_279 (fun _ _ _ => rfl) dX13_readEquation_141 (fun r33 => ?_)
    refine sn_iconst (y := m_X13_readEquation) (pc := 144) dX13_readEquation_144 kc_iconst_3 ?_
    refine sn_iload_n (y := m_X13_readEquation) (pc := 145) dX13_readEquation_145 rfl ?_
    refine sn_imul (y := m_X13_readEquation) (pc := 146) dX13_readEquation_146 ?_
    refine sn_iload (y := m_X13_readEquation) (pc := 147) dX13_readEquation_147 rfl ?_
    refine sn_iadd (y := m_X13_readEquation) (pc := 149) dX13_readEquation_149 ?_
    refine sn_iload (y := m_X13_readEquation) (pc := 150) dX13_readEquation_150 rfl ?_
    refine sn_iastore (y := m_X13_readEquation) (pc := 152) dX13_readEquation_152 ?_
    refine sn_iinc (y := m_X13_readEquation) (pc := 153) (v := x6 + 1) dX13_readEquation_153 rfl (by rfl) rfl ?_
    refine sn_aload_n (y := m_X13_readEquation) (pc := 156) dX13_readEquation_156 rfl ?_
    refine sn_bipush (y := m_X13_readEquation) (pc := 157) dX13_readEquation_157 kc_bipush_44 ?_
    refine sn_invV (y := m_X13_readEquation) (pc := 159) ca_11 (av := [vI (44 : Int32)]) (o := x0) (st := []) dX13_readEquation_159 lk_X13_234 im_X13_eatsSign se_X13_eatsSign rfl rfl rfl rfl ⟨by decide, by decide⟩ (c_X13_eatsSign cx.1 x0 (44 : Int32)) (fun r34 => ?_)
    refine sn_istore (y := m_X13_readEquation) (pc := 162) dX13_readEquation_162 rfl ?_
    refine sn_goto (y := m_X13_readEquation) (pc := 164) (tgt := 43) dX13_readEquation_164 (by decide) ?_
    exact sn_sub rfl (hk43 r34 (x6 + 1))
  exact sn_return rfl dX13_readEquation_120
def f_X13_readEquation_b43 (x0 : (Option Nat)) (x1 : Int32) (x2 : Int64) (x4 : Int32) (k43 : Int32 → Int32 → Mo Unit) (x5 : Int32) (x6 : Int32) : Mo Unit :=
  (if x5 = 0 then f_X13_readEquation_j167 x0 x1 x2 x4 x6 else mBd (mGetI 11 11 x0) (fun r22 => (if r22 = (5 : Int32) then f_X13_readEquation_j167 x0 x1 x2 x4 x6 else mBd (mGetA 11 4 x0) (fun r23 => mBd (mGetA 9 4 r23) (fun r24 => mBd (mLdA 7 r24 x4) (fun r25 => mBd (mGetI 10 0 r25) (fun r26 => mBd (mCk 11 x0 (f_X13_bounded x0 (1 : Int32) (r26 - (1 : Int32)))) (fun r27 => (if ¬ x6 = (3 : Int32) then f_X13_readEquation_j93 k43 x0 x1 x2 x4 x6 r27 else mBd (mCk 11 x0 (f_X13_wrong x0 (5 : Int32))) (fun _ => f_X13_readEquation_j93 k43 x0 x1 x2 x4 x6 r27))))))))))
def f_X13_readEquation_l43 (x0 : (Option Nat)) (x1 : Int32) (x2 : Int64) (x4 : Int32) : Int32 → Int32 → Mo Unit := lq2 (f_X13_readEquation_b43 x0 x1 x2 x4) fuel
set_option maxRecDepth 100000 in
theorem s_X13_readEquation_b43 {cx : CX} (x0 : (Option Nat)) (x1 : Int32) (x2 : Int64) (x4 : Int32) {k43 : Int32 → Int32 → Mo Unit} (hk43 : ∀ (z5 : Int32) (z6 : Int32), Sn cx m_X13_readEquation eV 43 [(5, vI z5), (6, vI z6), (0, vA x0), (1, vI x1), (2, vJ x2), (4, vI x4)] [] (k43 z5 z6)) (x5 : Int32) (x6 : Int32) : Sn cx m_X13_readEquation eV 43 [(5, vI x5), (6, vI x6), (0, vA x0), (1, vI x1), (2, vJ x2), (4, vI x4)] [] (f_X13_readEquation_b43 x0 x1 x2 x4 k43 x5 x6) := by
  refine sn_iload (y := m_X13_readEquation) (pc := 43) dX13_readEquation_43 rfl ?_
  refine sn_if_eq (y := m_X13_readEquation) (pc := 45) (tgt := 167) dX13_readEquation_45 (by decide) (fun _ => ?_) (fun _ => ?_)
  · exact sn_sub rfl (s_X13_readEquation_j167 x0 x1 x2 x4 x6)
  refine sn_aload_n (y := m_X13_readEquation) (pc := 48) dX13_readEquation_48 rfl ?_
  refine sn_getI (y := m_X13_readEquation) (pc := 49) ca_11 rfl fk_X13_111 (fun _ _ _ => rfl) dX13_readEquation_49 (fun r22 => ?_)
  refine sn_iconst (y := m_X13_readEquation) (pc := 52) dX13_readEquation_52 kc_iconst_5 ?_
  refine sn_icmp_eq (y := m_X13_readEquation) (pc := 53) (tgt := 167) dX13_readEquation_53 (by decide) (fun _ => ?_) (fun _ => ?_)
  · exact sn_sub rfl (s_X13_readEquation_j167 x0 x1 x2 x4 x6)
  refine sn_aload_n (y := m_X13_readEquation) (pc := 56) dX13_readEquation_56 rfl ?_
  refine sn_getA (y := m_X13_readEquation) (pc := 57) ca_11 rfl fk_X13_205 (fun _ _ _ => rfl) dX13_readEquation_57 (fun r23 => ?_)
  refine sn_getA (y := m_X13_readEquation) (pc := 60) ca_9 rfl fk_X13_259 (fun _ _ _ => rfl) dX13_readEquation_60 (fun r24 => ?_)
  refine sn_iload (y := m_X13_readEquation) (pc := 63) dX13_readEquation_63 rfl ?_
  refine sn_aaload (y := m_X13_readEquation) (pc := 65) dX13_readEquation_65 (fun r25 => ?_)
  refine sn_getI (y := m_X13_readEquation) (pc := 66) ca_10 rfl fk_X13_81 (fun _ _ _ => rfl) dX13_readEquation_66 (fun r26 => ?_)
  refine sn_istore (y := m_X13_readEquation) (pc := 69) dX13_readEquation_69 rfl ?_
  refine sn_aload_n (y := m_X13_readEquation) (pc := 71) dX13_readEquation_71 rfl ?_
  refine sn_iconst (y := m_X13_readEquation) (pc := 72) dX13_readEquation_72 kc_iconst_1 ?_
  refine sn_iload (y := m_X13_readEquation) (pc := 73) dX13_readEquation_73 rfl ?_
  refine sn_iconst (y := m_X13_readEquation) (pc := 75) dX13_readEquation_75 kc_iconst_1 ?_
  refine sn_isub (y := m_X13_readEquation) (pc := 76) dX13_readEquation_76 ?_
  refine sn_invV (y := m_X13_readEquation) (pc := 77) ca_11 (av := [vI (1 : Int32), vI (r26 - (1 : Int32))]) (o := x0) (st := []) dX13_readEquation_77 lk_X13_172 im_X13_bounded se_X13_bounded rfl rfl rfl rfl ⟨by decide, by decide⟩ (c_X13_bounded cx.1 x0 (1 : Int32) (r26 - (1 : Int32))) (fun r27 => ?_)
  refine sn_istore (y := m_X13_readEquation) (pc := 80) dX13_readEquation_80 rfl ?_
  refine sn_iload (y := m_X13_readEquation) (pc := 82) dX13_readEquation_82 rfl ?_
  refine sn_iconst (y := m_X13_readEquation) (pc := 84) dX13_readEquation_84 kc_iconst_3 ?_
  refine sn_icmp_ne (y := m_X13_readEquation) (pc := 85) (tgt := 93) dX13_readEquation_85 (by decide) (fun _ => ?_) (fun _ => ?_)
  · exact sn_sub rfl (s_X13_readEquation_j93 x0 x1 x2 x4 x6 r27 hk43)
  refine sn_aload_n (y := m_X13_readEquation) (pc := 88) dX13_readEquation_88 rfl ?_
  refine sn_iconst (y := m_X13_readEquation) (pc := 89) dX13_readEquation_89 kc_iconst_5 ?_
  refine sn_invV (y := m_X13_readEquation) (pc := 90) ca_11 (av := [vI (5 : Int32)]) (o := x0) (st := []) dX13_readEquation_90 lk_X13_164 im_X13_wrong se_X13_wrong rfl rfl rfl rfl ⟨by decide, by decide⟩ (c_X13_wrong cx.1 x0 (5 : Int32)) (fun _ => ?_)
  exact sn_sub rfl (s_X13_readEquation_j93 x0 x1 x2 x4 x6 r27 hk43)
set_option maxRecDepth 100000 in
theorem s_X13_readEquation_l43 {cx : CX} (x0 : (Option Nat)) (x1 : Int32) (x2 : Int64) (x4 : Int32) (x5 : Int32) (x6 : Int32) : Sn cx m_X13_readEquation eV 43 [(5, vI x5), (6, vI x6), (0, vA x0), (1, vI x1), (2, vJ x2), (4, vI x4)] [] (f_X13_readEquation_l43 x0 x1 x2 x4 x5 x6) :=
  sn_lq2 (L := fun x5 x6 => [(5, vI x5), (6, vI x6), (0, vA x0), (1, vI x1), (2, vJ x2), (4, vI x4)]) (fun k hk x5 x6 => s_X13_readEquation_b43 x0 x1 x2 x4 hk x5 x6) fuel x5 x6
def f_X13_readEquation (p0 : (Option Nat)) : Mo Unit :=
  mBd (mGetA 11 4 p0) (fun r1 => mBd (mGetI 9 1 r1) (fun r2 => mBd (mCk 11 p0 (f_X13_begins p0 r2 (4 : Int32))) (fun _ => mBd (mGetA 11 4 p0) (fun r3 => mBd (mGetI 9 1 r3) (fun r4 => mBd (mCk 11 p0 (f_X13_readFresh p0)) (fun r5 => mBd (mCk 11 p0 (f_X13_readField p0)) (fun r6 => mBd (mCk 11 p0 (f_X13_needs p0 ((some 11)))) (fun _ => f_X13_readEquation_l43 p0 r4 r5 r6 (1 : Int32) (0 : Int32)))))))))
set_option maxRecDepth 100000 in
theorem s_X13_readEquation {cx : CX} (p0 : (Option Nat)) : Sn cx m_X13_readEquation eV 0 [(0, vA p0)] [] (f_X13_readEquation p0) := by
  refine sn_aload_n (y := m_X13_readEquation) (pc := 0) dX13_readEquation_0 rfl ?_
  refine sn_aload_n (y := m_X13_readEquation) (pc := 1) dX13_readEquation_1 rfl ?_
  refine sn_getA (y := m_X13_readEquation) (pc := 2) ca_11 rfl fk_X13_205 (fun _ _ _ => rfl) dX13_readEquation_2 (fun r1 => ?_)
  refine sn_getI (y := m_X13_readEquation) (pc := 5) ca_9 rfl fk_X13_267 (fun _ _ _ => rfl) dX13_readEquation_5 (fun r2 => ?_)
  refine sn_iconst (y := m_X13_readEquation) (pc := 8) dX13_readEquation_8 kc_iconst_4 ?_
  refine sn_invV (y := m_X13_readEquation) (pc := 9) ca_11 (av := [vI r2, vI (4 : Int32)]) (o := p0) (st := []) dX13_readEquation_9 lk_X13_249 im_X13_begins se_X13_begins rfl rfl rfl rfl ⟨by decide, by decide⟩ (c_X13_begins cx.1 p0 r2 (4 : Int32)) (fun _ => ?_)
  refine sn_aload_n (y := m_X13_readEquation) (pc := 12) dX13_readEquation_12 rfl ?_
  refine sn_getA (y := m_X13_readEquation) (pc := 13) ca_11 rfl fk_X13_205 (fun _ _ _ => rfl) dX13_readEquation_13 (fun r3 => ?_)
  refine sn_getI (y := m_X13_readEquation) (pc := 16) ca_9 rfl fk_X13_267 (fun _ _ _ => rfl) dX13_readEquation_16 (fun r4 => ?_)
  refine sn_istore_n (y := m_X13_readEquation) (pc := 19) dX13_readEquation_19 rfl ?_
  refine sn_aload_n (y := m_X13_readEquation) (pc := 20) dX13_readEquation_20 rfl ?_
  refine sn_invV (y := m_X13_readEquation) (pc := 21) ca_11 (av := []) (o := p0) (st := []) dX13_readEquation_21 lk_X13_252 im_X13_readFresh se_X13_readFresh rfl rfl rfl rfl ⟨by decide, by decide⟩ (c_X13_readFresh cx.1 p0) (fun r5 => ?_)
  refine sn_lstore_n (y := m_X13_readEquation) (pc := 24) dX13_readEquation_24 rfl ?_
  refine sn_aload_n (y := m_X13_readEquation) (pc := 25) dX13_readEquation_25 rfl ?_
  refine sn_invV (y := m_X13_readEquation) (pc := 26) ca_11 (av := []) (o := p0) (st := []) dX13_readEquation_26 lk_X13_270 im_X13_readField se_X13_readField rfl rfl rfl rfl ⟨by decide, by decide⟩ (c_X13_readField cx.1 p0) (fun r6 => ?_)
  refine sn_istore (y := m_X13_readEquation) (pc := 29) dX13_readEquation_29 rfl ?_
  refine sn_aload_n (y := m_X13_readEquation) (pc := 31) dX13_readEquation_31 rfl ?_
  refine sn_ldcS (y := m_X13_readEquation) (pc := 32) (i := 8) rfl (by decide) dX13_readEquation_32 ?_
  refine sn_invV (y := m_X13_readEquation) (pc := 34) ca_11 (av := [vA ((some 11))]) (o := p0) (st := []) dX13_readEquation_34 lk_X13_227 im_X13_needs se_X13_needs rfl rfl rfl rfl ⟨by decide, by decide⟩ (c_X13_needs cx.1 p0 ((some 11))) (fun _ => ?_)
  refine sn_iconst (y := m_X13_readEquation) (pc := 37) dX13_readEquation_37 kc_iconst_1 ?_
  refine sn_istore (y := m_X13_readEquation) (pc := 38) dX13_readEquation_38 rfl ?_
  refine sn_iconst (y := m_X13_readEquation) (pc := 40) dX13_readEquation_40 kc_iconst_0 ?_
  refine sn_istore (y := m_X13_readEquation) (pc := 41) dX13_readEquation_41 rfl ?_
  exact sn_sub rfl (s_X13_readEquation_l43 p0 r4 r5 r6 (1 : Int32) (0 : Int32))
set_option maxRecDepth 100000 in
theorem c_X13_readEquation (g : Gl) (p0 : (Option Nat)) : Cn g m_X13_readEquation eV [vA p0] (mCk 11 p0 (f_X13_readEquation p0)) := cn_of_sn (by decide +kernel) rfl (fun _ => rfl) rfl (fun _ _ => sn_ck (s_X13_readEquation p0))
/-! X13_checks -/
def f_X13_checks (p0 : (Option Nat)) (p1 : Int32) : Mo Unit :=
  mBd (mCk 11 p0 (f_X13_isHuge p0 p1)) (fun r1 => (if ¬ r1 = 0 then mBd (mPutZ 11 20 p0 (1 : Int32)) (fun _ => mBd (mCk 11 p0 (f_X13_wholeRow p0 p1 (0 : Int64))) (fun _ => mRt ())) else mRt ()))
set_option maxRecDepth 100000 in
theorem s_X13_checks {cx : CX} (p0 : (Option Nat)) (p1 : Int32) : Sn cx m_X13_checks eV 0 [(0, vA p0), (1, vI p1)] [] (f_X13_checks p0 p1) := by
  refine sn_aload_n (y := m_X13_checks) (pc := 0) dX13_checks_0 rfl ?_
  refine sn_iload_n (y := m_X13_checks) (pc := 1) dX13_checks_1 rfl ?_
  refine sn_invV (y := m_X13_checks) (pc := 2) ca_11 (av := [vI p1]) (o := p0) (st := []) dX13_checks_2 lk_X13_290 im_X13_isHuge se_X13_isHuge rfl rfl rfl rfl ⟨by decide, by decide⟩ (c_X13_isHuge cx.1 p0 p1) (fun r1 => ?_)
  refine sn_if_ne (y := m_X13_checks) (pc := 5) (tgt := 9) dX13_checks_5 (by decide) (fun _ => ?_) (fun _ => ?_)
  · refine sn_aload_n (y := m_X13_checks) (pc := 9) dX13_checks_9 rfl ?_
    refine sn_iconst (y := m_X13_checks) (pc := 10) dX13_checks_10 kc_iconst_1 ?_
    refine sn_putZ (y := m_X13_checks) (pc := 11) ca_11 rfl fk_X13_293 (Or.inl rfl) rfl dX13_checks_11 ?_
    refine sn_aload_n (y := m_X13_checks) (pc := 14) dX13_checks_14 rfl ?_
    refine sn_iload_n (y := m_X13_checks) (pc := 15) dX13_checks_15 rfl ?_
    refine sn_lconst (y := m_X13_checks) (pc := 16) dX13_checks_16 kc_lconst_0 ?_
    refine sn_invV (y := m_X13_checks) (pc := 17) ca_11 (av := [vI p1, vJ (0 : Int64)]) (o := p0) (st := []) dX13_checks_17 lk_X13_297 im_X13_wholeRow se_X13_wholeRow rfl rfl rfl rfl ⟨by decide, by decide⟩ (c_X13_wholeRow cx.1 p0 p1 (0 : Int64)) (fun _ => ?_)
    exact sn_return rfl dX13_checks_20
  exact sn_return rfl dX13_checks_8
set_option maxRecDepth 100000 in
theorem c_X13_checks (g : Gl) (p0 : (Option Nat)) (p1 : Int32) : Cn g m_X13_checks eV [vA p0, vI p1] (mCk 11 p0 (f_X13_checks p0 p1)) := cn_of_sn (by decide +kernel) rfl (fun _ => rfl) rfl (fun _ _ => sn_ck (s_X13_checks p0 p1))
/-! X13_deeper -/
def f_X13_deeper_j14 (x0 : (Option Nat)) : Mo Unit :=
  mBd (mGetI 11 19 x0) (fun r2 => mBd (mPutI 11 19 x0 (r2 + (1 : Int32))) (fun _ => mBd (mCk 11 x0 (f_X13_goesOn x0)) (fun _ => mRt ())))
set_option maxRecDepth 100000 in
theorem s_X13_deeper_j14 {cx : CX} (x0 : (Option Nat)) : Sn cx m_X13_deeper eV 14 [(0, vA x0)] [] (f_X13_deeper_j14 x0) := by
  refine sn_aload_n (y := m_X13_deeper) (pc := 14) dX13_deeper_14 rfl ?_
  refine sn_dup (y := m_X13_deeper) (pc := 15) rfl dX13_deeper_15 ?_
  refine sn_getI (y := m_X13_deeper) (pc := 16) ca_11 rfl fk_X13_307 (fun _ _ _ => rfl) dX13_deeper_16 (fun r2 => ?_)
  refine sn_iconst (y := m_X13_deeper) (pc := 19) dX13_deeper_19 kc_iconst_1 ?_
  refine sn_iadd (y := m_X13_deeper) (pc := 20) dX13_deeper_20 ?_
  refine sn_putI (y := m_X13_deeper) (pc := 21) ca_11 rfl fk_X13_307 (Or.inl rfl) rfl dX13_deeper_21 ?_
  refine sn_aload_n (y := m_X13_deeper) (pc := 24) dX13_deeper_24 rfl ?_
  refine sn_invV (y := m_X13_deeper) (pc := 25) ca_11 (av := []) (o := x0) (st := []) dX13_deeper_25 lk_X13_158 im_X13_goesOn se_X13_goesOn rfl rfl rfl rfl ⟨by decide, by decide⟩ (c_X13_goesOn cx.1 x0) (fun _ => ?_)
  exact sn_return rfl dX13_deeper_28
def f_X13_deeper (p0 : (Option Nat)) : Mo Unit :=
  mBd (mGetI 11 19 p0) (fun r1 => (if ¬ r1 = (8 : Int32) then f_X13_deeper_j14 p0 else mBd (mCk 11 p0 (f_X13_wrong p0 (5 : Int32))) (fun _ => f_X13_deeper_j14 p0)))
set_option maxRecDepth 100000 in
theorem s_X13_deeper {cx : CX} (p0 : (Option Nat)) : Sn cx m_X13_deeper eV 0 [(0, vA p0)] [] (f_X13_deeper p0) := by
  refine sn_aload_n (y := m_X13_deeper) (pc := 0) dX13_deeper_0 rfl ?_
  refine sn_getI (y := m_X13_deeper) (pc := 1) ca_11 rfl fk_X13_307 (fun _ _ _ => rfl) dX13_deeper_1 (fun r1 => ?_)
  refine sn_bipush (y := m_X13_deeper) (pc := 4) dX13_deeper_4 kc_bipush_8 ?_
  refine sn_icmp_ne (y := m_X13_deeper) (pc := 6) (tgt := 14) dX13_deeper_6 (by decide) (fun _ => ?_) (fun _ => ?_)
  · exact sn_sub rfl (s_X13_deeper_j14 p0)
  refine sn_aload_n (y := m_X13_deeper) (pc := 9) dX13_deeper_9 rfl ?_
  refine sn_iconst (y := m_X13_deeper) (pc := 10) dX13_deeper_10 kc_iconst_5 ?_
  refine sn_invV (y := m_X13_deeper) (pc := 11) ca_11 (av := [vI (5 : Int32)]) (o := p0) (st := []) dX13_deeper_11 lk_X13_164 im_X13_wrong se_X13_wrong rfl rfl rfl rfl ⟨by decide, by decide⟩ (c_X13_wrong cx.1 p0 (5 : Int32)) (fun _ => ?_)
  exact sn_sub rfl (s_X13_deeper_j14 p0)
set_option maxRecDepth 100000 in
theorem c_X13_deeper (g : Gl) (p0 : (Option Nat)) : Cn g m_X13_deeper eV [vA p0] (mCk 11 p0 (f_X13_deeper p0)) := cn_of_sn (by decide +kernel) rfl (fun _ => rfl) rfl (fun _ _ => sn_ck (s_X13_deeper p0))
/-! X13_readNamed -/
def f_X13_readNamed_b80 (x0 : (Option Nat)) (x2 : Int32) (x3 : Int32) (k80 : Int32 → Mo Unit) (x4 : Int32) : Mo Unit :=
  (if x4 ≥ (12 : Int32) then mBd (mCk 11 x0 (f_X13_goesOn x0)) (fun _ => mRt ()) else mBd (mGetA 11 5 x0) (fun r6 => mBd (mGetA 11 4 x0) (fun r7 => mBd (mGetA 9 11 r7) (fun r8 => mBd (mGetA 11 4 x0) (fun r9 => mBd (mGetA 9 14 r9) (fun r10 => mBd (mLdI 1 r10 x3) (fun r11 => mBd (mLdJ r8 (((12 : Int32) * r11) + x4)) (fun r12 => mBd (mStJ r6 ((x2 * (12 : Int32)) + x4) r12) (fun _ => k80 (x4 + 1))))))))))
def f_X13_readNamed_l80 (x0 : (Option Nat)) (x2 : Int32) (x3 : Int32) : Int32 → Mo Unit := lq1 (f_X13_readNamed_b80 x0 x2 x3) fuel
set_option maxRecDepth 100000 in
theorem s_X13_readNamed_b80 {cx : CX} (x0 : (Option Nat)) (x2 : Int32) (x3 : Int32) {k80 : Int32 → Mo Unit} (hk80 : ∀ (z4 : Int32), Sn cx m_X13_readNamed eV 80 [(4, vI z4), (0, vA x0), (2, vI x2), (3, vI x3)] [] (k80 z4)) (x4 : Int32) : Sn cx m_X13_readNamed eV 80 [(4, vI x4), (0, vA x0), (2, vI x2), (3, vI x3)] [] (f_X13_readNamed_b80 x0 x2 x3 k80 x4) := by
  refine sn_iload (y := m_X13_readNamed) (pc := 80) dX13_readNamed_80 rfl ?_
  refine sn_bipush (y := m_X13_readNamed) (pc := 82) dX13_readNamed_82 kc_bipush_12 ?_
  refine sn_icmp_ge (y := m_X13_readNamed) (pc := 84) (tgt := 128) dX13_readNamed_84 (by decide) (fun _ => ?_) (fun _ => ?_)
  · refine sn_aload_n (y := m_X13_readNamed) (pc := 128) dX13_readNamed_128 rfl ?_
    refine sn_invV (y := m_X13_readNamed) (pc := 129) ca_11 (av := []) (o := x0) (st := []) dX13_readNamed_129 lk_X13_158 im_X13_goesOn se_X13_goesOn rfl rfl rfl rfl ⟨by decide, by decide⟩ (c_X13_goesOn cx.1 x0) (fun _ => ?_)
    exact sn_return rfl dX13_readNamed_132
  refine sn_aload_n (y := m_X13_readNamed) (pc := 87) dX13_readNamed_87 rfl ?_
  refine sn_getA (y := m_X13_readNamed) (pc := 88) ca_11 rfl fk_X13_13 (fun _ _ _ => rfl) dX13_readNamed_88 (fun r6 => ?_)
  refine sn_iload_n (y := m_X13_readNamed) (pc := 91) dX13_readNamed_91 rfl ?_
  refine sn_bipush (y := m_X13_readNamed) (pc := 92) dX13_readNamed_92 kc_bipush_12 ?_
  refine sn_imul (y := m_X13_readNamed) (pc := 94) dX13_readNamed_94 ?_
  refine sn_iload (y := m_X13_readNamed) (pc := 95) dX13_readNamed_95 rfl ?_
  refine sn_iadd (y := m_X13_readNamed) (pc := 97) dX13_readNamed_97 ?_
  refine sn_aload_n (y := m_X13_readNamed) (pc := 98) dX13_readNamed_98 rfl ?_
  refine sn_getA (y := m_X13_readNamed) (pc := 99) ca_11 rfl fk_X13_205 (fun _ _ _ => rfl) dX13_readNamed_99 (fun r7 => ?_)
  refine sn_getA (y := m_X13_readNamed) (pc := 102) ca_9 rfl fk_X13_314 (fun _ _ _ => rfl) dX13_readNamed_102 (fun r8 => ?_)
  refine sn_bipush (y := m_X13_readNamed) (pc := 105) dX13_readNamed_105 kc_bipush_12 ?_
  refine sn_aload_n (y := m_X13_readNamed) (pc := 107) dX13_readNamed_107 rfl ?_
  refine sn_getA (y := m_X13_readNamed) (pc := 108) ca_11 rfl fk_X13_205 (fun _ _ _ => rfl) dX13_readNamed_108 (fun r9 => ?_)
  refine sn_getA (y := m_X13_readNamed) (pc := 111) ca_9 rfl fk_X13_224 (fun _ _ _ => rfl) dX13_readNamed_111 (fun r10 => ?_)
  refine sn_iload_n (y := m_X13_readNamed) (pc := 114) dX13_readNamed_114 rfl ?_
  refine sn_iaload (y := m_X13_readNamed) (pc := 115) dX13_readNamed_115 (fun r11 => ?_)
  refine sn_imul (y := m_X13_readNamed) (pc := 116) dX13_readNamed_116 ?_
  refine sn_iload (y := m_X13_readNamed) (pc := 117) dX13_readNamed_117 rfl ?_
  refine sn_iadd (y := m_X13_readNamed) (pc := 119) dX13_readNamed_119 ?_
  refine sn_laload (y := m_X13_readNamed) (pc := 120) dX13_readNamed_120 (fun r12 => ?_)
  refine sn_lastore (y := m_X13_readNamed) (pc := 121) dX13_readNamed_121 ?_
  refine sn_iinc (y := m_X13_readNamed) (pc := 122) (v := x4 + 1) dX13_readNamed_122 rfl (by rfl) rfl ?_
  refine sn_goto (y := m_X13_readNamed) (pc := 125) (tgt := 80) dX13_readNamed_125 (by decide) ?_
  exact sn_sub rfl (hk80 (x4 + 1))
set_option maxRecDepth 100000 in
theorem s_X13_readNamed_l80 {cx : CX} (x0 : (Option Nat)) (x2 : Int32) (x3 : Int32) (x4 : Int32) : Sn cx m_X13_readNamed eV 80 [(4, vI x4), (0, vA x0), (2, vI x2), (3, vI x3)] [] (f_X13_readNamed_l80 x0 x2 x3 x4) :=
  sn_lq1 (L := fun x4 => [(4, vI x4), (0, vA x0), (2, vI x2), (3, vI x3)]) (fun k hk x4 => s_X13_readNamed_b80 x0 x2 x3 hk x4) fuel x4
def f_X13_readNamed_j68 (x0 : (Option Nat)) (x2 : Int32) (x3 : Int32) : Mo Unit :=
  mBd (mGetI 11 11 x0) (fun r5 => (if ¬ r5 = (5 : Int32) then f_X13_readNamed_l80 x0 x2 x3 (0 : Int32) else mRt ()))
set_option maxRecDepth 100000 in
theorem s_X13_readNamed_j68 {cx : CX} (x0 : (Option Nat)) (x2 : Int32) (x3 : Int32) : Sn cx m_X13_readNamed eV 68 [(0, vA x0), (2, vI x2), (3, vI x3)] [] (f_X13_readNamed_j68 x0 x2 x3) := by
  refine sn_aload_n (y := m_X13_readNamed) (pc := 68) dX13_readNamed_68 rfl ?_
  refine sn_getI (y := m_X13_readNamed) (pc := 69) ca_11 rfl fk_X13_111 (fun _ _ _ => rfl) dX13_readNamed_69 (fun r5 => ?_)
  refine sn_iconst (y := m_X13_readNamed) (pc := 72) dX13_readNamed_72 kc_iconst_5 ?_
  refine sn_icmp_ne (y := m_X13_readNamed) (pc := 73) (tgt := 77) dX13_readNamed_73 (by decide) (fun _ => ?_) (fun _ => ?_)
  · refine sn_iconst (y := m_X13_readNamed) (pc := 77) dX13_readNamed_77 kc_iconst_0 ?_
    refine sn_istore (y := m_X13_readNamed) (pc := 78) dX13_readNamed_78 rfl ?_
    exact sn_sub rfl (s_X13_readNamed_l80 x0 x2 x3 (0 : Int32))
  exact sn_return rfl dX13_readNamed_76
def f_X13_readNamed_j63 (x0 : (Option Nat)) (x2 : Int32) (x3 : Int32) : Mo Unit :=
  mBd (mCk 11 x0 (f_X13_wrong x0 (2 : Int32))) (fun _ => f_X13_readNamed_j68 x0 x2 x3)
set_option maxRecDepth 100000 in
theorem s_X13_readNamed_j63 {cx : CX} (x0 : (Option Nat)) (x2 : Int32) (x3 : Int32) : Sn cx m_X13_readNamed eV 63 [(0, vA x0), (2, vI x2), (3, vI x3)] [] (f_X13_readNamed_j63 x0 x2 x3) := by
  refine sn_aload_n (y := m_X13_readNamed) (pc := 63) dX13_readNamed_63 rfl ?_
  refine sn_iconst (y := m_X13_readNamed) (pc := 64) dX13_readNamed_64 kc_iconst_2 ?_
  refine sn_invV (y := m_X13_readNamed) (pc := 65) ca_11 (av := [vI (2 : Int32)]) (o := x0) (st := []) dX13_readNamed_65 lk_X13_164 im_X13_wrong se_X13_wrong rfl rfl rfl rfl ⟨by decide, by decide⟩ (c_X13_wrong cx.1 x0 (2 : Int32)) (fun _ => ?_)
  exact sn_sub rfl (s_X13_readNamed_j68 x0 x2 x3)
def f_X13_readNamed_j12 (x0 : (Option Nat)) (x1 : Int32) (x2 : Int32) : Mo Unit :=
  mBd (mGetA 11 4 x0) (fun r2 => mBd (mGetJ 11 17 x0) (fun r3 => mBd (mCk 9 r2 (f_X11_find r2 r3)) (fun r4 => (if r4 = (-1 : Int32) then f_X13_readNamed_j63 x0 x2 r4 else mBd (mGetA 11 4 x0) (fun r13 => mBd (mGetA 9 13 r13) (fun r14 => mBd (mLdI 1 r14 r4) (fun r15 => (if ¬ r15 = (2 : Int32) then f_X13_readNamed_j63 x0 x2 r4 else mBd (mGetA 11 4 x0) (fun r16 => mBd (mGetA 9 10 r16) (fun r17 => mBd (mGetA 11 4 x0) (fun r18 => mBd (mGetA 9 14 r18) (fun r19 => mBd (mLdI 1 r19 r4) (fun r20 => mBd (mLdI 1 r17 r20) (fun r21 => (if r21 = x1 then f_X13_readNamed_j68 x0 x2 r4 else f_X13_readNamed_j63 x0 x2 r4)))))))))))))))
set_option maxRecDepth 100000 in
theorem s_X13_readNamed_j12 {cx : CX} (x0 : (Option Nat)) (x1 : Int32) (x2 : Int32) : Sn cx m_X13_readNamed eV 12 [(0, vA x0), (1, vI x1), (2, vI x2)] [] (f_X13_readNamed_j12 x0 x1 x2) := by
  refine sn_aload_n (y := m_X13_readNamed) (pc := 12) dX13_readNamed_12 rfl ?_
  refine sn_getA (y := m_X13_readNamed) (pc := 13) ca_11 rfl fk_X13_205 (fun _ _ _ => rfl) dX13_readNamed_13 (fun r2 => ?_)
  refine sn_aload_n (y := m_X13_readNamed) (pc := 16) dX13_readNamed_16 rfl ?_
  refine sn_getJ (y := m_X13_readNamed) (pc := 17) ca_11 rfl fk_X13_130 (fun _ _ _ => rfl) dX13_readNamed_17 (fun r3 => ?_)
  refine sn_invV (y := m_X13_readNamed) (pc := 20) ca_9 (av := [vJ r3]) (o := r2) (st := []) dX13_readNamed_20 lk_X13_209 im_X11_find se_X11_find rfl rfl rfl rfl ⟨by decide, by decide⟩ (c_X11_find cx.1 r2 r3) (fun r4 => ?_)
  refine sn_istore_n (y := m_X13_readNamed) (pc := 23) dX13_readNamed_23 rfl ?_
  refine sn_iload_n (y := m_X13_readNamed) (pc := 24) dX13_readNamed_24 rfl ?_
  refine sn_iconst (y := m_X13_readNamed) (pc := 25) dX13_readNamed_25 kc_iconst_m1 ?_
  refine sn_icmp_eq (y := m_X13_readNamed) (pc := 26) (tgt := 63) dX13_readNamed_26 (by decide) (fun _ => ?_) (fun _ => ?_)
  · exact sn_sub rfl (s_X13_readNamed_j63 x0 x2 r4)
  refine sn_aload_n (y := m_X13_readNamed) (pc := 29) dX13_readNamed_29 rfl ?_
  refine sn_getA (y := m_X13_readNamed) (pc := 30) ca_11 rfl fk_X13_205 (fun _ _ _ => rfl) dX13_readNamed_30 (fun r13 => ?_)
  refine sn_getA (y := m_X13_readNamed) (pc := 33) ca_9 rfl fk_X13_221 (fun _ _ _ => rfl) dX13_readNamed_33 (fun r14 => ?_)
  refine sn_iload_n (y := m_X13_readNamed) (pc := 36) dX13_readNamed_36 rfl ?_
  refine sn_iaload (y := m_X13_readNamed) (pc := 37) dX13_readNamed_37 (fun r15 => ?_)
  refine sn_iconst (y := m_X13_readNamed) (pc := 38) dX13_readNamed_38 kc_iconst_2 ?_
  refine sn_icmp_ne (y := m_X13_readNamed) (pc := 39) (tgt := 63) dX13_readNamed_39 (by decide) (fun _ => ?_) (fun _ => ?_)
  · exact sn_sub rfl (s_X13_readNamed_j63 x0 x2 r4)
  refine sn_aload_n (y := m_X13_readNamed) (pc := 42) dX13_readNamed_42 rfl ?_
  refine sn_getA (y := m_X13_readNamed) (pc := 43) ca_11 rfl fk_X13_205 (fun _ _ _ => rfl) dX13_readNamed_43 (fun r16 => ?_)
  refine sn_getA (y := m_X13_readNamed) (pc := 46) ca_9 rfl fk_X13_316 (fun _ _ _ => rfl) dX13_readNamed_46 (fun r17 => ?_)
  refine sn_aload_n (y := m_X13_readNamed) (pc := 49) dX13_readNamed_49 rfl ?_
  refine sn_getA (y := m_X13_readNamed) (pc := 50) ca_11 rfl fk_X13_205 (fun _ _ _ => rfl) dX13_readNamed_50 (fun r18 => ?_)
  refine sn_getA (y := m_X13_readNamed) (pc := 53) ca_9 rfl fk_X13_224 (fun _ _ _ => rfl) dX13_readNamed_53 (fun r19 => ?_)
  refine sn_iload_n (y := m_X13_readNamed) (pc := 56) dX13_readNamed_56 rfl ?_
  refine sn_iaload (y := m_X13_readNamed) (pc := 57) dX13_readNamed_57 (fun r20 => ?_)
  refine sn_iaload (y := m_X13_readNamed) (pc := 58) dX13_readNamed_58 (fun r21 => ?_)
  refine sn_iload_n (y := m_X13_readNamed) (pc := 59) dX13_readNamed_59 rfl ?_
  refine sn_icmp_eq (y := m_X13_readNamed) (pc := 60) (tgt := 68) dX13_readNamed_60 (by decide) (fun _ => ?_) (fun _ => ?_)
  · exact sn_sub rfl (s_X13_readNamed_j68 x0 x2 r4)
  exact sn_sub rfl (s_X13_readNamed_j63 x0 x2 r4)
def f_X13_readNamed (p0 : (Option Nat)) (p1 : Int32) (p2 : Int32) : Mo Unit :=
  mBd (mCk 11 p0 (f_X13_isName p0)) (fun r1 => (if ¬ r1 = 0 then f_X13_readNamed_j12 p0 p1 p2 else mBd (mCk 11 p0 (f_X13_wrong p0 (1 : Int32))) (fun _ => f_X13_readNamed_j12 p0 p1 p2)))
set_option maxRecDepth 100000 in
theorem s_X13_readNamed {cx : CX} (p0 : (Option Nat)) (p1 : Int32) (p2 : Int32) : Sn cx m_X13_readNamed eV 0 [(0, vA p0), (1, vI p1), (2, vI p2)] [] (f_X13_readNamed p0 p1 p2) := by
  refine sn_aload_n (y := m_X13_readNamed) (pc := 0) dX13_readNamed_0 rfl ?_
  refine sn_invV (y := m_X13_readNamed) (pc := 1) ca_11 (av := []) (o := p0) (st := []) dX13_readNamed_1 lk_X13_201 im_X13_isName se_X13_isName rfl rfl rfl rfl ⟨by decide, by decide⟩ (c_X13_isName cx.1 p0) (fun r1 => ?_)
  refine sn_if_ne (y := m_X13_readNamed) (pc := 4) (tgt := 12) dX13_readNamed_4 (by decide) (fun _ => ?_) (fun _ => ?_)
  · exact sn_sub rfl (s_X13_readNamed_j12 p0 p1 p2)
  refine sn_aload_n (y := m_X13_readNamed) (pc := 7) dX13_readNamed_7 rfl ?_
  refine sn_iconst (y := m_X13_readNamed) (pc := 8) dX13_readNamed_8 kc_iconst_1 ?_
  refine sn_invV (y := m_X13_readNamed) (pc := 9) ca_11 (av := [vI (1 : Int32)]) (o := p0) (st := []) dX13_readNamed_9 lk_X13_164 im_X13_wrong se_X13_wrong rfl rfl rfl rfl ⟨by decide, by decide⟩ (c_X13_wrong cx.1 p0 (1 : Int32)) (fun _ => ?_)
  exact sn_sub rfl (s_X13_readNamed_j12 p0 p1 p2)
set_option maxRecDepth 100000 in
theorem c_X13_readNamed (g : Gl) (p0 : (Option Nat)) (p1 : Int32) (p2 : Int32) : Cn g m_X13_readNamed eV [vA p0, vI p1, vI p2] (mCk 11 p0 (f_X13_readNamed p0 p1 p2)) := cn_of_sn (by decide +kernel) rfl (fun _ => rfl) rfl (fun _ _ => sn_ck (s_X13_readNamed p0 p1 p2))
/-! X13_readSum -/
def f_X13_readSum_j49 (g_X13_readSum : (Option Nat) → (Option Nat) → Int32 → Mo Int32) (g_X13_readProduct : (Option Nat) → (Option Nat) → Int32 → Mo Int32) (g_X13_readAtom : (Option Nat) → (Option Nat) → Int32 → Mo Int32) (g_X13_turnsAtom : (Option Nat) → (Option Nat) → Int32 → Int32 → Mo Int32) (k7 : Mo Int32) (x0 : (Option Nat)) (x1 : (Option Nat)) (x2 : Int32) (x3 : Int32) (s0 : Int64) : Mo Int32 :=
  mBd (mCk 11 x0 (f_X13_goesOn x0)) (fun _ => mBd (mCk 11 x0 (g_X13_readProduct x0 x1 x2)) (fun r5 => mBd (mGetI 11 11 x0) (fun r6 => (if ¬ r6 = (5 : Int32) then mBd (mCk 11 x0 (f_X13_added x0 x3 r5 s0)) (fun _ => mBd (mCk 11 x0 (f_X13_checks x0 x3)) (fun _ => mBd (mPutI 11 18 x0 (x3 + (1 : Int32))) (fun _ => k7))) else mRt x3))))
set_option maxRecDepth 100000 in
theorem s_X13_readSum_j49 {cx : CX} {d : Nat} {g_X13_readSum : (Option Nat) → (Option Nat) → Int32 → Mo Int32} {g_X13_readProduct : (Option Nat) → (Option Nat) → Int32 → Mo Int32} {g_X13_readAtom : (Option Nat) → (Option Nat) → Int32 → Mo Int32} {g_X13_turnsAtom : (Option Nat) → (Option Nat) → Int32 → Int32 → Mo Int32} (hg_X13_readSum : ∀ (a0 : (Option Nat)) (a1 : (Option Nat)) (a2 : Int32), Cn cx.1 (m_X13_readSum d) eI [vA a0, vA a1, vI a2] (mCk 11 a0 (g_X13_readSum a0 a1 a2))) (hg_X13_readProduct : ∀ (a0 : (Option Nat)) (a1 : (Option Nat)) (a2 : Int32), Cn cx.1 (m_X13_readProduct d) eI [vA a0, vA a1, vI a2] (mCk 11 a0 (g_X13_readProduct a0 a1 a2))) (hg_X13_readAtom : ∀ (a0 : (Option Nat)) (a1 : (Option Nat)) (a2 : Int32), Cn cx.1 (m_X13_readAtom d) eI [vA a0, vA a1, vI a2] (mCk 11 a0 (g_X13_readAtom a0 a1 a2))) (hg_X13_turnsAtom : ∀ (a0 : (Option Nat)) (a1 : (Option Nat)) (a2 : Int32) (a3 : Int32), Cn cx.1 (m_X13_turnsAtom d) eI [vA a0, vA a1, vI a2, vI a3] (mCk 11 a0 (g_X13_turnsAtom a0 a1 a2 a3))) {k7 : Mo Int32} (x0 : (Option Nat)) (x1 : (Option Nat)) (x2 : Int32) (x3 : Int32) (s0 : Int64) (hk7 : Sn cx (m_X13_readSum (d + 1)) eI 7 [(0, vA x0), (1, vA x1), (2, vI x2), (3, vI x3)] [] (k7)) : Sn cx (m_X13_readSum (d + 1)) eI 49 [(0, vA x0), (1, vA x1), (2, vI x2), (3, vI x3)] [vJ s0] (f_X13_readSum_j49 g_X13_readSum g_X13_readProduct g_X13_readAtom g_X13_turnsAtom k7 x0 x1 x2 x3 s0) := by
  refine sn_lstore (y := (m_X13_readSum (d + 1))) (pc := 49) dX13_readSum_49 rfl ?_
  refine sn_aload_n (y := (m_X13_readSum (d + 1))) (pc := 51) dX13_readSum_51 rfl ?_
  refine sn_invV (y := (m_X13_readSum (d + 1))) (pc := 52) ca_11 (av := []) (o := x0) (st := []) dX13_readSum_52 lk_X13_158 im_X13_goesOn se_X13_goesOn rfl rfl rfl rfl ⟨by show 3 + 1 ≤ 10 + (d + 1); omega, by show 8 + (3 + 11) + 51 ≤ 203 + 60 * (d + 1); omega⟩ (c_X13_goesOn cx.1 x0) (fun _ => ?_)
  refine sn_aload_n (y := (m_X13_readSum (d + 1))) (pc := 55) dX13_readSum_55 rfl ?_
  refine sn_aload_n (y := (m_X13_readSum (d + 1))) (pc := 56) dX13_readSum_56 rfl ?_
  refine sn_iload_n (y := (m_X13_readSum (d + 1))) (pc := 57) dX13_readSum_57 rfl ?_
  refine sn_invV (y := (m_X13_readSum (d + 1))) (pc := 58) ca_11 (av := [vA x1, vI x2]) (o := x0) (st := []) dX13_readSum_58 (lk_X13_319 d) im_X13_readProduct se_X13_readProduct rfl rfl rfl rfl ⟨by show 10 + d + 1 ≤ 10 + (d + 1); omega, by show 8 + (5 + 11) + (203 + 60 * d) ≤ 203 + 60 * (d + 1); omega⟩ (hg_X13_readProduct x0 x1 x2) (fun r5 => ?_)
  refine sn_istore (y := (m_X13_readSum (d + 1))) (pc := 61) dX13_readSum_61 rfl ?_
  refine sn_aload_n (y := (m_X13_readSum (d + 1))) (pc := 63) dX13_readSum_63 rfl ?_
  refine sn_getI (y := (m_X13_readSum (d + 1))) (pc := 64) ca_11 rfl fk_X13_111 (fun _ _ _ => rfl) dX13_readSum_64 (fun r6 => ?_)
  refine sn_iconst (y := (m_X13_readSum (d + 1))) (pc := 67) dX13_readSum_67 kc_iconst_5 ?_
  refine sn_icmp_ne (y := (m_X13_readSum (d + 1))) (pc := 68) (tgt := 73) dX13_readSum_68 (by decide) (fun _ => ?_) (fun _ => ?_)
  · refine sn_aload_n (y := (m_X13_readSum (d + 1))) (pc := 73) dX13_readSum_73 rfl ?_
    refine sn_iload_n (y := (m_X13_readSum (d + 1))) (pc := 74) dX13_readSum_74 rfl ?_
    refine sn_iload (y := (m_X13_readSum (d + 1))) (pc := 75) dX13_readSum_75 rfl ?_
    refine sn_lload (y := (m_X13_readSum (d + 1))) (pc := 77) dX13_readSum_77 rfl ?_
    refine sn_invV (y := (m_X13_readSum (d + 1))) (pc := 79) ca_11 (av := [vI x3, vI r5, vJ s0]) (o := x0) (st := []) dX13_readSum_79 lk_X13_324 im_X13_added se_X13_added rfl rfl rfl rfl ⟨by show 2 + 1 ≤ 10 + (d + 1); omega, by show 8 + (6 + 11) + 30 ≤ 203 + 60 * (d + 1); omega⟩ (c_X13_added cx.1 x0 x3 r5 s0) (fun _ => ?_)
    refine sn_aload_n (y := (m_X13_readSum (d + 1))) (pc := 82) dX13_readSum_82 rfl ?_
    refine sn_iload_n (y := (m_X13_readSum (d + 1))) (pc := 83) dX13_readSum_83 rfl ?_
    refine sn_invV (y := (m_X13_readSum (d + 1))) (pc := 84) ca_11 (av := [vI x3]) (o := x0) (st := []) dX13_readSum_84 lk_X13_328 im_X13_checks se_X13_checks rfl rfl rfl rfl ⟨by show 3 + 1 ≤ 10 + (d + 1); omega, by show 8 + (2 + 11) + 54 ≤ 203 + 60 * (d + 1); omega⟩ (c_X13_checks cx.1 x0 x3) (fun _ => ?_)
    refine sn_aload_n (y := (m_X13_readSum (d + 1))) (pc := 87) dX13_readSum_87 rfl ?_
    refine sn_iload_n (y := (m_X13_readSum (d + 1))) (pc := 88) dX13_readSum_88 rfl ?_
    refine sn_iconst (y := (m_X13_readSum (d + 1))) (pc := 89) dX13_readSum_89 kc_iconst_1 ?_
    refine sn_iadd (y := (m_X13_readSum (d + 1))) (pc := 90) dX13_readSum_90 ?_
    refine sn_putI (y := (m_X13_readSum (d + 1))) (pc := 91) ca_11 rfl fk_X13_304 (Or.inl rfl) rfl dX13_readSum_91 ?_
    refine sn_goto (y := (m_X13_readSum (d + 1))) (pc := 94) (tgt := 7) dX13_readSum_94 (by decide) ?_
    exact sn_sub rfl (hk7)
  refine sn_iload_n (y := (m_X13_readSum (d + 1))) (pc := 71) dX13_readSum_71 rfl ?_
  exact sn_ireturn rfl dX13_readSum_72
def f_X13_readSum_j33 (g_X13_readSum : (Option Nat) → (Option Nat) → Int32 → Mo Int32) (g_X13_readProduct : (Option Nat) → (Option Nat) → Int32 → Mo Int32) (g_X13_readAtom : (Option Nat) → (Option Nat) → Int32 → Mo Int32) (g_X13_turnsAtom : (Option Nat) → (Option Nat) → Int32 → Int32 → Mo Int32) (k7 : Mo Int32) (x0 : (Option Nat)) (x1 : (Option Nat)) (x2 : Int32) (x3 : Int32) : Mo Int32 :=
  mBd (mCk 11 x0 (f_X13_isSign x0 (43 : Int32))) (fun r4 => (if r4 = 0 then f_X13_readSum_j49 g_X13_readSum g_X13_readProduct g_X13_readAtom g_X13_turnsAtom k7 x0 x1 x2 x3 (-1 : Int64) else f_X13_readSum_j49 g_X13_readSum g_X13_readProduct g_X13_readAtom g_X13_turnsAtom k7 x0 x1 x2 x3 (1 : Int64)))
set_option maxRecDepth 100000 in
theorem s_X13_readSum_j33 {cx : CX} {d : Nat} {g_X13_readSum : (Option Nat) → (Option Nat) → Int32 → Mo Int32} {g_X13_readProduct : (Option Nat) → (Option Nat) → Int32 → Mo Int32} {g_X13_readAtom : (Option Nat) → (Option Nat) → Int32 → Mo Int32} {g_X13_turnsAtom : (Option Nat) → (Option Nat) → Int32 → Int32 → Mo Int32} (hg_X13_readSum : ∀ (a0 : (Option Nat)) (a1 : (Option Nat)) (a2 : Int32), Cn cx.1 (m_X13_readSum d) eI [vA a0, vA a1, vI a2] (mCk 11 a0 (g_X13_readSum a0 a1 a2))) (hg_X13_readProduct : ∀ (a0 : (Option Nat)) (a1 : (Option Nat)) (a2 : Int32), Cn cx.1 (m_X13_readProduct d) eI [vA a0, vA a1, vI a2] (mCk 11 a0 (g_X13_readProduct a0 a1 a2))) (hg_X13_readAtom : ∀ (a0 : (Option Nat)) (a1 : (Option Nat)) (a2 : Int32), Cn cx.1 (m_X13_readAtom d) eI [vA a0, vA a1, vI a2] (mCk 11 a0 (g_X13_readAtom a0 a1 a2))) (hg_X13_turnsAtom : ∀ (a0 : (Option Nat)) (a1 : (Option Nat)) (a2 : Int32) (a3 : Int32), Cn cx.1 (m_X13_turnsAtom d) eI [vA a0, vA a1, vI a2, vI a3] (mCk 11 a0 (g_X13_turnsAtom a0 a1 a2 a3))) {k7 : Mo Int32} (x0 : (Option Nat)) (x1 : (Option Nat)) (x2 : Int32) (x3 : Int32) (hk7 : Sn cx (m_X13_readSum (d + 1)) eI 7 [(0, vA x0), (1, vA x1), (2, vI x2), (3, vI x3)] [] (k7)) : Sn cx (m_X13_readSum (d + 1)) eI 33 [(0, vA x0), (1, vA x1), (2, vI x2), (3, vI x3)] [] (f_X13_readSum_j33 g_X13_readSum g_X13_readProduct g_X13_readAtom g_X13_turnsAtom k7 x0 x1 x2 x3) := by
  refine sn_aload_n (y := (m_X13_readSum (d + 1))) (pc := 33) dX13_readSum_33 rfl ?_
  refine sn_bipush (y := (m_X13_readSum (d + 1))) (pc := 34) dX13_readSum_34 kc_bipush_43 ?_
  refine sn_invV (y := (m_X13_readSum (d + 1))) (pc := 36) ca_11 (av := [vI (43 : Int32)]) (o := x0) (st := []) dX13_readSum_36 lk_X13_161 im_X13_isSign se_X13_isSign rfl rfl rfl rfl ⟨by show 2 + 1 ≤ 10 + (d + 1); omega, by show 8 + (2 + 11) + 30 ≤ 203 + 60 * (d + 1); omega⟩ (c_X13_isSign cx.1 x0 (43 : Int32)) (fun r4 => ?_)
  refine sn_if_eq (y := (m_X13_readSum (d + 1))) (pc := 39) (tgt := 46) dX13_readSum_39 (by decide) (fun _ => ?_) (fun _ => ?_)
  · refine sn_ldcJ (y := (m_X13_readSum (d + 1))) (pc := 46) kj_X13_322 dX13_readSum_46 ?_
    exact sn_sub rfl (s_X13_readSum_j49 hg_X13_readSum hg_X13_readProduct hg_X13_readAtom hg_X13_turnsAtom x0 x1 x2 x3 (-1 : Int64) hk7)
  refine sn_lconst (y := (m_X13_readSum (d + 1))) (pc := 42) dX13_readSum_42 kc_lconst_1 ?_
  refine sn_goto (y := (m_X13_readSum (d + 1))) (pc := 43) (tgt := 49) dX13_readSum_43 (by decide) ?_
  exact sn_sub rfl (s_X13_readSum_j49 hg_X13_readSum hg_X13_readProduct hg_X13_readAtom hg_X13_turnsAtom x0 x1 x2 x3 (1 : Int64) hk7)
def f_X13_readSum_b7 (g_X13_readSum : (Option Nat) → (Option Nat) → Int32 → Mo Int32) (g_X13_readProduct : (Option Nat) → (Option Nat) → Int32 → Mo Int32) (g_X13_readAtom : (Option Nat) → (Option Nat) → Int32 → Mo Int32) (g_X13_turnsAtom : (Option Nat) → (Option Nat) → Int32 → Int32 → Mo Int32) (x0 : (Option Nat)) (x1 : (Option Nat)) (x2 : Int32) (x3 : Int32) (k7 : Mo Int32) : Mo Int32 :=
  mBd (mGetI 11 11 x0) (fun r2 => (if r2 = (5 : Int32) then mRt x3 else mBd (mCk 11 x0 (f_X13_isSign x0 (43 : Int32))) (fun r3 => (if ¬ r3 = 0 then f_X13_readSum_j33 g_X13_readSum g_X13_readProduct g_X13_readAtom g_X13_turnsAtom k7 x0 x1 x2 x3 else mBd (mCk 11 x0 (f_X13_isSign x0 (45 : Int32))) (fun r7 => (if r7 = 0 then mRt x3 else f_X13_readSum_j33 g_X13_readSum g_X13_readProduct g_X13_readAtom g_X13_turnsAtom k7 x0 x1 x2 x3))))))
def f_X13_readSum_l7 (g_X13_readSum : (Option Nat) → (Option Nat) → Int32 → Mo Int32) (g_X13_readProduct : (Option Nat) → (Option Nat) → Int32 → Mo Int32) (g_X13_readAtom : (Option Nat) → (Option Nat) → Int32 → Mo Int32) (g_X13_turnsAtom : (Option Nat) → (Option Nat) → Int32 → Int32 → Mo Int32) (x0 : (Option Nat)) (x1 : (Option Nat)) (x2 : Int32) (x3 : Int32) : Mo Int32 := lq0 (f_X13_readSum_b7 g_X13_readSum g_X13_readProduct g_X13_readAtom g_X13_turnsAtom x0 x1 x2 x3) fuel
set_option maxRecDepth 100000 in
theorem s_X13_readSum_b7 {cx : CX} {d : Nat} {g_X13_readSum : (Option Nat) → (Option Nat) → Int32 → Mo Int32} {g_X13_readProduct : (Option Nat) → (Option Nat) → Int32 → Mo Int32} {g_X13_readAtom : (Option Nat) → (Option Nat) → Int32 → Mo Int32} {g_X13_turnsAtom : (Option Nat) → (Option Nat) → Int32 → Int32 → Mo Int32} (hg_X13_readSum : ∀ (a0 : (Option Nat)) (a1 : (Option Nat)) (a2 : Int32), Cn cx.1 (m_X13_readSum d) eI [vA a0, vA a1, vI a2] (mCk 11 a0 (g_X13_readSum a0 a1 a2))) (hg_X13_readProduct : ∀ (a0 : (Option Nat)) (a1 : (Option Nat)) (a2 : Int32), Cn cx.1 (m_X13_readProduct d) eI [vA a0, vA a1, vI a2] (mCk 11 a0 (g_X13_readProduct a0 a1 a2))) (hg_X13_readAtom : ∀ (a0 : (Option Nat)) (a1 : (Option Nat)) (a2 : Int32), Cn cx.1 (m_X13_readAtom d) eI [vA a0, vA a1, vI a2] (mCk 11 a0 (g_X13_readAtom a0 a1 a2))) (hg_X13_turnsAtom : ∀ (a0 : (Option Nat)) (a1 : (Option Nat)) (a2 : Int32) (a3 : Int32), Cn cx.1 (m_X13_turnsAtom d) eI [vA a0, vA a1, vI a2, vI a3] (mCk 11 a0 (g_X13_turnsAtom a0 a1 a2 a3))) (x0 : (Option Nat)) (x1 : (Option Nat)) (x2 : Int32) (x3 : Int32) {k7 : Mo Int32} (hk7 : Sn cx (m_X13_readSum (d + 1)) eI 7 [(0, vA x0), (1, vA x1), (2, vI x2), (3, vI x3)] [] (k7)) : Sn cx (m_X13_readSum (d + 1)) eI 7 [(0, vA x0), (1, vA x1), (2, vI x2), (3, vI x3)] [] (f_X13_readSum_b7 g_X13_readSum g_X13_readProduct g_X13_readAtom g_X13_turnsAtom x0 x1 x2 x3 k7) := by
  refine sn_aload_n (y := (m_X13_readSum (d + 1))) (pc := 7) dX13_readSum_7 rfl ?_
  refine sn_getI (y := (m_X13_readSum (d + 1))) (pc := 8) ca_11 rfl fk_X13_111 (fun _ _ _ => rfl) dX13_readSum_8 (fun r2 => ?_)
  refine sn_iconst (y := (m_X13_readSum (d + 1))) (pc := 11) dX13_readSum_11 kc_iconst_5 ?_
  refine sn_icmp_eq (y := (m_X13_readSum (d + 1))) (pc := 12) (tgt := 97) dX13_readSum_12 (by decide) (fun _ => ?_) (fun _ => ?_)
  · refine sn_iload_n (y := (m_X13_readSum (d + 1))) (pc := 97) dX13_readSum_97 rfl ?_
    exact sn_ireturn rfl dX13_readSum_98
  refine sn_aload_n (y := (m_X13_readSum (d + 1))) (pc := 15) dX13_readSum_15 rfl ?_
  refine sn_bipush (y := (m_X13_readSum (d + 1))) (pc := 16) dX13_readSum_16 kc_bipush_43 ?_
  refine sn_invV (y := (m_X13_readSum (d + 1))) (pc := 18) ca_11 (av := [vI (43 : Int32)]) (o := x0) (st := []) dX13_readSum_18 lk_X13_161 im_X13_isSign se_X13_isSign rfl rfl rfl rfl ⟨by show 2 + 1 ≤ 10 + (d + 1); omega, by show 8 + (2 + 11) + 30 ≤ 203 + 60 * (d + 1); omega⟩ (c_X13_isSign cx.1 x0 (43 : Int32)) (fun r3 => ?_)
  refine sn_if_ne (y := (m_X13_readSum (d + 1))) (pc := 21) (tgt := 33) dX13_readSum_21 (by decide) (fun _ => ?_) (fun _ => ?_)
  · exact sn_sub rfl (s_X13_readSum_j33 hg_X13_readSum hg_X13_readProduct hg_X13_readAtom hg_X13_turnsAtom x0 x1 x2 x3 hk7)
  refine sn_aload_n (y := (m_X13_readSum (d + 1))) (pc := 24) dX13_readSum_24 rfl ?_
  refine sn_bipush (y := (m_X13_readSum (d + 1))) (pc := 25) dX13_readSum_25 kc_bipush_45 ?_
  refine sn_invV (y := (m_X13_readSum (d + 1))) (pc := 27) ca_11 (av := [vI (45 : Int32)]) (o := x0) (st := []) dX13_readSum_27 lk_X13_161 im_X13_isSign se_X13_isSign rfl rfl rfl rfl ⟨by show 2 + 1 ≤ 10 + (d + 1); omega, by show 8 + (2 + 11) + 30 ≤ 203 + 60 * (d + 1); omega⟩ (c_X13_isSign cx.1 x0 (45 : Int32)) (fun r7 => ?_)
  refine sn_if_eq (y := (m_X13_readSum (d + 1))) (pc := 30) (tgt := 97) dX13_readSum_30 (by decide) (fun _ => ?_) (fun _ => ?_)
  · refine sn_iload_n (y := (m_X13_readSum (d + 1))) (pc := 97) dX13_readSum_97 rfl ?_
    exact sn_ireturn rfl dX13_readSum_98
  exact sn_sub rfl (s_X13_readSum_j33 hg_X13_readSum hg_X13_readProduct hg_X13_readAtom hg_X13_turnsAtom x0 x1 x2 x3 hk7)
set_option maxRecDepth 100000 in
theorem s_X13_readSum_l7 {cx : CX} {d : Nat} {g_X13_readSum : (Option Nat) → (Option Nat) → Int32 → Mo Int32} {g_X13_readProduct : (Option Nat) → (Option Nat) → Int32 → Mo Int32} {g_X13_readAtom : (Option Nat) → (Option Nat) → Int32 → Mo Int32} {g_X13_turnsAtom : (Option Nat) → (Option Nat) → Int32 → Int32 → Mo Int32} (hg_X13_readSum : ∀ (a0 : (Option Nat)) (a1 : (Option Nat)) (a2 : Int32), Cn cx.1 (m_X13_readSum d) eI [vA a0, vA a1, vI a2] (mCk 11 a0 (g_X13_readSum a0 a1 a2))) (hg_X13_readProduct : ∀ (a0 : (Option Nat)) (a1 : (Option Nat)) (a2 : Int32), Cn cx.1 (m_X13_readProduct d) eI [vA a0, vA a1, vI a2] (mCk 11 a0 (g_X13_readProduct a0 a1 a2))) (hg_X13_readAtom : ∀ (a0 : (Option Nat)) (a1 : (Option Nat)) (a2 : Int32), Cn cx.1 (m_X13_readAtom d) eI [vA a0, vA a1, vI a2] (mCk 11 a0 (g_X13_readAtom a0 a1 a2))) (hg_X13_turnsAtom : ∀ (a0 : (Option Nat)) (a1 : (Option Nat)) (a2 : Int32) (a3 : Int32), Cn cx.1 (m_X13_turnsAtom d) eI [vA a0, vA a1, vI a2, vI a3] (mCk 11 a0 (g_X13_turnsAtom a0 a1 a2 a3))) (x0 : (Option Nat)) (x1 : (Option Nat)) (x2 : Int32) (x3 : Int32) : Sn cx (m_X13_readSum (d + 1)) eI 7 [(0, vA x0), (1, vA x1), (2, vI x2), (3, vI x3)] [] (f_X13_readSum_l7 g_X13_readSum g_X13_readProduct g_X13_readAtom g_X13_turnsAtom x0 x1 x2 x3) :=
  sn_lq0 (fun k hk => s_X13_readSum_b7 hg_X13_readSum hg_X13_readProduct hg_X13_readAtom hg_X13_turnsAtom x0 x1 x2 x3 hk) fuel
def fb_X13_readSum (g_X13_readSum : (Option Nat) → (Option Nat) → Int32 → Mo Int32) (g_X13_readProduct : (Option Nat) → (Option Nat) → Int32 → Mo Int32) (g_X13_readAtom : (Option Nat) → (Option Nat) → Int32 → Mo Int32) (g_X13_turnsAtom : (Option Nat) → (Option Nat) → Int32 → Int32 → Mo Int32) (p0 : (Option Nat)) (p1 : (Option Nat)) (p2 : Int32) : Mo Int32 :=
  mBd (mCk 11 p0 (g_X13_readProduct p0 p1 p2)) (fun r1 => f_X13_readSum_l7 g_X13_readSum g_X13_readProduct g_X13_readAtom g_X13_turnsAtom p0 p1 p2 r1)
set_option maxRecDepth 100000 in
theorem s_X13_readSum {cx : CX} {d : Nat} {g_X13_readSum : (Option Nat) → (Option Nat) → Int32 → Mo Int32} {g_X13_readProduct : (Option Nat) → (Option Nat) → Int32 → Mo Int32} {g_X13_readAtom : (Option Nat) → (Option Nat) → Int32 → Mo Int32} {g_X13_turnsAtom : (Option Nat) → (Option Nat) → Int32 → Int32 → Mo Int32} (hg_X13_readSum : ∀ (a0 : (Option Nat)) (a1 : (Option Nat)) (a2 : Int32), Cn cx.1 (m_X13_readSum d) eI [vA a0, vA a1, vI a2] (mCk 11 a0 (g_X13_readSum a0 a1 a2))) (hg_X13_readProduct : ∀ (a0 : (Option Nat)) (a1 : (Option Nat)) (a2 : Int32), Cn cx.1 (m_X13_readProduct d) eI [vA a0, vA a1, vI a2] (mCk 11 a0 (g_X13_readProduct a0 a1 a2))) (hg_X13_readAtom : ∀ (a0 : (Option Nat)) (a1 : (Option Nat)) (a2 : Int32), Cn cx.1 (m_X13_readAtom d) eI [vA a0, vA a1, vI a2] (mCk 11 a0 (g_X13_readAtom a0 a1 a2))) (hg_X13_turnsAtom : ∀ (a0 : (Option Nat)) (a1 : (Option Nat)) (a2 : Int32) (a3 : Int32), Cn cx.1 (m_X13_turnsAtom d) eI [vA a0, vA a1, vI a2, vI a3] (mCk 11 a0 (g_X13_turnsAtom a0 a1 a2 a3))) (p0 : (Option Nat)) (p1 : (Option Nat)) (p2 : Int32) : Sn cx (m_X13_readSum (d + 1)) eI 0 [(0, vA p0), (1, vA p1), (2, vI p2)] [] (fb_X13_readSum g_X13_readSum g_X13_readProduct g_X13_readAtom g_X13_turnsAtom p0 p1 p2) := by
  refine sn_aload_n (y := (m_X13_readSum (d + 1))) (pc := 0) dX13_readSum_0 rfl ?_
  refine sn_aload_n (y := (m_X13_readSum (d + 1))) (pc := 1) dX13_readSum_1 rfl ?_
  refine sn_iload_n (y := (m_X13_readSum (d + 1))) (pc := 2) dX13_readSum_2 rfl ?_
  refine sn_invV (y := (m_X13_readSum (d + 1))) (pc := 3) ca_11 (av := [vA p1, vI p2]) (o := p0) (st := []) dX13_readSum_3 (lk_X13_319 d) im_X13_readProduct se_X13_readProduct rfl rfl rfl rfl ⟨by show 10 + d + 1 ≤ 10 + (d + 1); omega, by show 8 + (5 + 11) + (203 + 60 * d) ≤ 203 + 60 * (d + 1); omega⟩ (hg_X13_readProduct p0 p1 p2) (fun r1 => ?_)
  refine sn_istore_n (y := (m_X13_readSum (d + 1))) (pc := 6) dX13_readSum_6 rfl ?_
  exact sn_sub rfl (s_X13_readSum_l7 hg_X13_readSum hg_X13_readProduct hg_X13_readAtom hg_X13_turnsAtom p0 p1 p2 r1)
/-! X13_readProduct -/
def f_X13_readProduct_b7 (g_X13_readSum : (Option Nat) → (Option Nat) → Int32 → Mo Int32) (g_X13_readProduct : (Option Nat) → (Option Nat) → Int32 → Mo Int32) (g_X13_readAtom : (Option Nat) → (Option Nat) → Int32 → Mo Int32) (g_X13_turnsAtom : (Option Nat) → (Option Nat) → Int32 → Int32 → Mo Int32) (x0 : (Option Nat)) (x1 : (Option Nat)) (x2 : Int32) (x3 : Int32) (k7 : Mo Int32) : Mo Int32 :=
  mBd (mGetI 11 11 x0) (fun r2 => (if r2 = (5 : Int32) then mRt x3 else mBd (mCk 11 x0 (f_X13_eatsSign x0 (42 : Int32))) (fun r3 => (if r3 = 0 then mRt x3 else mBd (mCk 11 x0 (g_X13_readAtom x0 x1 x2)) (fun r4 => mBd (mGetI 11 11 x0) (fun r5 => (if ¬ r5 = (5 : Int32) then mBd (mCk 11 x0 (f_X13_multiply x0 x1 x3 r4 x3)) (fun _ => mBd (mCk 11 x0 (f_X13_checks x0 x3)) (fun _ => mBd (mPutI 11 18 x0 (x3 + (1 : Int32))) (fun _ => k7))) else mRt x3)))))))
def f_X13_readProduct_l7 (g_X13_readSum : (Option Nat) → (Option Nat) → Int32 → Mo Int32) (g_X13_readProduct : (Option Nat) → (Option Nat) → Int32 → Mo Int32) (g_X13_readAtom : (Option Nat) → (Option Nat) → Int32 → Mo Int32) (g_X13_turnsAtom : (Option Nat) → (Option Nat) → Int32 → Int32 → Mo Int32) (x0 : (Option Nat)) (x1 : (Option Nat)) (x2 : Int32) (x3 : Int32) : Mo Int32 := lq0 (f_X13_readProduct_b7 g_X13_readSum g_X13_readProduct g_X13_readAtom g_X13_turnsAtom x0 x1 x2 x3) fuel
set_option maxRecDepth 100000 in
theorem s_X13_readProduct_b7 {cx : CX} {d : Nat} {g_X13_readSum : (Option Nat) → (Option Nat) → Int32 → Mo Int32} {g_X13_readProduct : (Option Nat) → (Option Nat) → Int32 → Mo Int32} {g_X13_readAtom : (Option Nat) → (Option Nat) → Int32 → Mo Int32} {g_X13_turnsAtom : (Option Nat) → (Option Nat) → Int32 → Int32 → Mo Int32} (hg_X13_readSum : ∀ (a0 : (Option Nat)) (a1 : (Option Nat)) (a2 : Int32), Cn cx.1 (m_X13_readSum d) eI [vA a0, vA a1, vI a2] (mCk 11 a0 (g_X13_readSum a0 a1 a2))) (hg_X13_readProduct : ∀ (a0 : (Option Nat)) (a1 : (Option Nat)) (a2 : Int32), Cn cx.1 (m_X13_readProduct d) eI [vA a0, vA a1, vI a2] (mCk 11 a0 (g_X13_readProduct a0 a1 a2))) (hg_X13_readAtom : ∀ (a0 : (Option Nat)) (a1 : (Option Nat)) (a2 : Int32), Cn cx.1 (m_X13_readAtom d) eI [vA a0, vA a1, vI a2] (mCk 11 a0 (g_X13_readAtom a0 a1 a2))) (hg_X13_turnsAtom : ∀ (a0 : (Option Nat)) (a1 : (Option Nat)) (a2 : Int32) (a3 : Int32), Cn cx.1 (m_X13_turnsAtom d) eI [vA a0, vA a1, vI a2, vI a3] (mCk 11 a0 (g_X13_turnsAtom a0 a1 a2 a3))) (x0 : (Option Nat)) (x1 : (Option Nat)) (x2 : Int32) (x3 : Int32) {k7 : Mo Int32} (hk7 : Sn cx (m_X13_readProduct (d + 1)) eI 7 [(0, vA x0), (1, vA x1), (2, vI x2), (3, vI x3)] [] (k7)) : Sn cx (m_X13_readProduct (d + 1)) eI 7 [(0, vA x0), (1, vA x1), (2, vI x2), (3, vI x3)] [] (f_X13_readProduct_b7 g_X13_readSum g_X13_readProduct g_X13_readAtom g_X13_turnsAtom x0 x1 x2 x3 k7) := by
  refine sn_aload_n (y := (m_X13_readProduct (d + 1))) (pc := 7) dX13_readProduct_7 rfl ?_
  refine sn_getI (y := (m_X13_readProduct (d + 1))) (pc := 8) ca_11 rfl fk_X13_111 (fun _ _ _ => rfl) dX13_readProduct_8 (fun r2 => ?_)
  refine sn_iconst (y := (m_X13_readProduct (d + 1))) (pc := 11) dX13_readProduct_11 kc_iconst_5 ?_
  refine sn_icmp_eq (y := (m_X13_readProduct (d + 1))) (pc := 12) (tgt := 66) dX13_readProduct_12 (by decide) (fun _ => ?_) (fun _ => ?_)
  · refine sn_iload_n (y := (m_X13_readProduct (d + 1))) (pc := 66) dX13_readProduct_66 rfl ?_
    exact sn_ireturn rfl dX13_readProduct_67
  refine sn_aload_n (y := (m_X13_readProduct (d + 1))) (pc := 15) dX13_readProduct_15 rfl ?_
  refine sn_bipush (y := (m_X13_readProduct (d + 1))) (pc := 16) dX13_readProduct_16 kc_bipush_42 ?_
  refine sn_invV (y := (m_X13_readProduct (d + 1))) (pc := 18) ca_11 (av := [vI (42 : Int32)]) (o := x0) (st := []) dX13_readProduct_18 lk_X13_234 im_X13_eatsSign se_X13_eatsSign rfl rfl rfl rfl ⟨by show 4 + 1 ≤ 10 + (d + 1); omega, by show 8 + (3 + 11) + 73 ≤ 203 + 60 * (d + 1); omega⟩ (c_X13_eatsSign cx.1 x0 (42 : Int32)) (fun r3 => ?_)
  refine sn_if_eq (y := (m_X13_readProduct (d + 1))) (pc := 21) (tgt := 66) dX13_readProduct_21 (by decide) (fun _ => ?_) (fun _ => ?_)
  · refine sn_iload_n (y := (m_X13_readProduct (d + 1))) (pc := 66) dX13_readProduct_66 rfl ?_
    exact sn_ireturn rfl dX13_readProduct_67
  refine sn_aload_n (y := (m_X13_readProduct (d + 1))) (pc := 24) dX13_readProduct_24 rfl ?_
  refine sn_aload_n (y := (m_X13_readProduct (d + 1))) (pc := 25) dX13_readProduct_25 rfl ?_
  refine sn_iload_n (y := (m_X13_readProduct (d + 1))) (pc := 26) dX13_readProduct_26 rfl ?_
  refine sn_invV (y := (m_X13_readProduct (d + 1))) (pc := 27) ca_11 (av := [vA x1, vI x2]) (o := x0) (st := []) dX13_readProduct_27 (lk_X13_331 d) im_X13_readAtom se_X13_readAtom rfl rfl rfl rfl ⟨by show 10 + d + 1 ≤ 10 + (d + 1); omega, by show 8 + (6 + 11) + (203 + 60 * d) ≤ 203 + 60 * (d + 1); omega⟩ (hg_X13_readAtom x0 x1 x2) (fun r4 => ?_)
  refine sn_istore (y := (m_X13_readProduct (d + 1))) (pc := 30) dX13_readProduct_30 rfl ?_
  refine sn_aload_n (y := (m_X13_readProduct (d + 1))) (pc := 32) dX13_readProduct_32 rfl ?_
  refine sn_getI (y := (m_X13_readProduct (d + 1))) (pc := 33) ca_11 rfl fk_X13_111 (fun _ _ _ => rfl) dX13_readProduct_33 (fun r5 => ?_)
  refine sn_iconst (y := (m_X13_readProduct (d + 1))) (pc := 36) dX13_readProduct_36 kc_iconst_5 ?_
  refine sn_icmp_ne (y := (m_X13_readProduct (d + 1))) (pc := 37) (tgt := 42) dX13_readProduct_37 (by decide) (fun _ => ?_) (fun _ => ?_)
  · refine sn_aload_n (y := (m_X13_readProduct (d + 1))) (pc := 42) dX13_readProduct_42 rfl ?_
    refine sn_aload_n (y := (m_X13_readProduct (d + 1))) (pc := 43) dX13_readProduct_43 rfl ?_
    refine sn_iload_n (y := (m_X13_readProduct (d + 1))) (pc := 44) dX13_readProduct_44 rfl ?_
    refine sn_iload (y := (m_X13_readProduct (d + 1))) (pc := 45) dX13_readProduct_45 rfl ?_
    refine sn_iload_n (y := (m_X13_readProduct (d + 1))) (pc := 47) dX13_readProduct_47 rfl ?_
    refine sn_invV (y := (m_X13_readProduct (d + 1))) (pc := 48) ca_11 (av := [vA x1, vI x3, vI r4, vI x3]) (o := x0) (st := []) dX13_readProduct_48 lk_X13_334 im_X13_multiply se_X13_multiply rfl rfl rfl rfl ⟨by show 3 + 1 ≤ 10 + (d + 1); omega, by show 8 + (7 + 11) + 58 ≤ 203 + 60 * (d + 1); omega⟩ (c_X13_multiply cx.1 x0 x1 x3 r4 x3) (fun _ => ?_)
    refine sn_aload_n (y := (m_X13_readProduct (d + 1))) (pc := 51) dX13_readProduct_51 rfl ?_
    refine sn_iload_n (y := (m_X13_readProduct (d + 1))) (pc := 52) dX13_readProduct_52 rfl ?_
    refine sn_invV (y := (m_X13_readProduct (d + 1))) (pc := 53) ca_11 (av := [vI x3]) (o := x0) (st := []) dX13_readProduct_53 lk_X13_328 im_X13_checks se_X13_checks rfl rfl rfl rfl ⟨by show 3 + 1 ≤ 10 + (d + 1); omega, by show 8 + (2 + 11) + 54 ≤ 203 + 60 * (d + 1); omega⟩ (c_X13_checks cx.1 x0 x3) (fun _ => ?_)
    refine sn_aload_n (y := (m_X13_readProduct (d + 1))) (pc := 56) dX13_readProduct_56 rfl ?_
    refine sn_iload_n (y := (m_X13_readProduct (d + 1))) (pc := 57) dX13_readProduct_57 rfl ?_
    refine sn_iconst (y := (m_X13_readProduct (d + 1))) (pc := 58) dX13_readProduct_58 kc_iconst_1 ?_
    refine sn_iadd (y := (m_X13_readProduct (d + 1))) (pc := 59) dX13_readProduct_59 ?_
    refine sn_putI (y := (m_X13_readProduct (d + 1))) (pc := 60) ca_11 rfl fk_X13_304 (Or.inl rfl) rfl dX13_readProduct_60 ?_
    refine sn_goto (y := (m_X13_readProduct (d + 1))) (pc := 63) (tgt := 7) dX13_readProduct_63 (by decide) ?_
    exact sn_sub rfl (hk7)
  refine sn_iload_n (y := (m_X13_readProduct (d + 1))) (pc := 40) dX13_readProduct_40 rfl ?_
  exact sn_ireturn rfl dX13_readProduct_41
set_option maxRecDepth 100000 in
theorem s_X13_readProduct_l7 {cx : CX} {d : Nat} {g_X13_readSum : (Option Nat) → (Option Nat) → Int32 → Mo Int32} {g_X13_readProduct : (Option Nat) → (Option Nat) → Int32 → Mo Int32} {g_X13_readAtom : (Option Nat) → (Option Nat) → Int32 → Mo Int32} {g_X13_turnsAtom : (Option Nat) → (Option Nat) → Int32 → Int32 → Mo Int32} (hg_X13_readSum : ∀ (a0 : (Option Nat)) (a1 : (Option Nat)) (a2 : Int32), Cn cx.1 (m_X13_readSum d) eI [vA a0, vA a1, vI a2] (mCk 11 a0 (g_X13_readSum a0 a1 a2))) (hg_X13_readProduct : ∀ (a0 : (Option Nat)) (a1 : (Option Nat)) (a2 : Int32), Cn cx.1 (m_X13_readProduct d) eI [vA a0, vA a1, vI a2] (mCk 11 a0 (g_X13_readProduct a0 a1 a2))) (hg_X13_readAtom : ∀ (a0 : (Option Nat)) (a1 : (Option Nat)) (a2 : Int32), Cn cx.1 (m_X13_readAtom d) eI [vA a0, vA a1, vI a2] (mCk 11 a0 (g_X13_readAtom a0 a1 a2))) (hg_X13_turnsAtom : ∀ (a0 : (Option Nat)) (a1 : (Option Nat)) (a2 : Int32) (a3 : Int32), Cn cx.1 (m_X13_turnsAtom d) eI [vA a0, vA a1, vI a2, vI a3] (mCk 11 a0 (g_X13_turnsAtom a0 a1 a2 a3))) (x0 : (Option Nat)) (x1 : (Option Nat)) (x2 : Int32) (x3 : Int32) : Sn cx (m_X13_readProduct (d + 1)) eI 7 [(0, vA x0), (1, vA x1), (2, vI x2), (3, vI x3)] [] (f_X13_readProduct_l7 g_X13_readSum g_X13_readProduct g_X13_readAtom g_X13_turnsAtom x0 x1 x2 x3) :=
  sn_lq0 (fun k hk => s_X13_readProduct_b7 hg_X13_readSum hg_X13_readProduct hg_X13_readAtom hg_X13_turnsAtom x0 x1 x2 x3 hk) fuel
def fb_X13_readProduct (g_X13_readSum : (Option Nat) → (Option Nat) → Int32 → Mo Int32) (g_X13_readProduct : (Option Nat) → (Option Nat) → Int32 → Mo Int32) (g_X13_readAtom : (Option Nat) → (Option Nat) → Int32 → Mo Int32) (g_X13_turnsAtom : (Option Nat) → (Option Nat) → Int32 → Int32 → Mo Int32) (p0 : (Option Nat)) (p1 : (Option Nat)) (p2 : Int32) : Mo Int32 :=
  mBd (mCk 11 p0 (g_X13_readAtom p0 p1 p2)) (fun r1 => f_X13_readProduct_l7 g_X13_readSum g_X13_readProduct g_X13_readAtom g_X13_turnsAtom p0 p1 p2 r1)
set_option maxRecDepth 100000 in
theorem s_X13_readProduct {cx : CX} {d : Nat} {g_X13_readSum : (Option Nat) → (Option Nat) → Int32 → Mo Int32} {g_X13_readProduct : (Option Nat) → (Option Nat) → Int32 → Mo Int32} {g_X13_readAtom : (Option Nat) → (Option Nat) → Int32 → Mo Int32} {g_X13_turnsAtom : (Option Nat) → (Option Nat) → Int32 → Int32 → Mo Int32} (hg_X13_readSum : ∀ (a0 : (Option Nat)) (a1 : (Option Nat)) (a2 : Int32), Cn cx.1 (m_X13_readSum d) eI [vA a0, vA a1, vI a2] (mCk 11 a0 (g_X13_readSum a0 a1 a2))) (hg_X13_readProduct : ∀ (a0 : (Option Nat)) (a1 : (Option Nat)) (a2 : Int32), Cn cx.1 (m_X13_readProduct d) eI [vA a0, vA a1, vI a2] (mCk 11 a0 (g_X13_readProduct a0 a1 a2))) (hg_X13_readAtom : ∀ (a0 : (Option Nat)) (a1 : (Option Nat)) (a2 : Int32), Cn cx.1 (m_X13_readAtom d) eI [vA a0, vA a1, vI a2] (mCk 11 a0 (g_X13_readAtom a0 a1 a2))) (hg_X13_turnsAtom : ∀ (a0 : (Option Nat)) (a1 : (Option Nat)) (a2 : Int32) (a3 : Int32), Cn cx.1 (m_X13_turnsAtom d) eI [vA a0, vA a1, vI a2, vI a3] (mCk 11 a0 (g_X13_turnsAtom a0 a1 a2 a3))) (p0 : (Option Nat)) (p1 : (Option Nat)) (p2 : Int32) : Sn cx (m_X13_readProduct (d + 1)) eI 0 [(0, vA p0), (1, vA p1), (2, vI p2)] [] (fb_X13_readProduct g_X13_readSum g_X13_readProduct g_X13_readAtom g_X13_turnsAtom p0 p1 p2) := by
  refine sn_aload_n (y := (m_X13_readProduct (d + 1))) (pc := 0) dX13_readProduct_0 rfl ?_
  refine sn_aload_n (y := (m_X13_readProduct (d + 1))) (pc := 1) dX13_readProduct_1 rfl ?_
  refine sn_iload_n (y := (m_X13_readProduct (d + 1))) (pc := 2) dX13_readProduct_2 rfl ?_
  refine sn_invV (y := (m_X13_readProduct (d + 1))) (pc := 3) ca_11 (av := [vA p1, vI p2]) (o := p0) (st := []) dX13_readProduct_3 (lk_X13_331 d) im_X13_readAtom se_X13_readAtom rfl rfl rfl rfl ⟨by show 10 + d + 1 ≤ 10 + (d + 1); omega, by show 8 + (6 + 11) + (203 + 60 * d) ≤ 203 + 60 * (d + 1); omega⟩ (hg_X13_readAtom p0 p1 p2) (fun r1 => ?_)
  refine sn_istore_n (y := (m_X13_readProduct (d + 1))) (pc := 6) dX13_readProduct_6 rfl ?_
  exact sn_sub rfl (s_X13_readProduct_l7 hg_X13_readSum hg_X13_readProduct hg_X13_readAtom hg_X13_turnsAtom p0 p1 p2 r1)
