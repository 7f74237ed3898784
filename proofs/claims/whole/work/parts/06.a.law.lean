/-! ===== the law ===== -/
/-- the script is the old cell 2: L ints xs -/
def Scr (cx : CX) (xs : Nat → Int32) (L : Nat) : Prop := va_X (ad cx.1 2) L xs cx.2.2.2.2.1 cx.2.2.2.2.1.heap ∧ ad cx.1 2 < cx.2.2.2.2.1.heap.size ∧ ¬ gA cx.1 (ad cx.1 2)
def mLdX (xs : Nat → Int32) (L : Nat) (i : Int32) : Mo Int32 := fun h => if ¬ (i < 0 ∨ L ≤ i.toNatClampNeg) then some (xs i.toNatClampNeg, h) else none
theorem sn_slen {α : Type} {cx : CX} {y : MD} {enc : α → Option LV} {pc : Nat} {ls : List (Nat × LV)} {st : List LV} {F : Mo α} {xs : Nat → Int32} {L : Nat} (hX : Scr cx xs L) (d : decode y.2.2.1 pc = .ok (.arraylength, 1)) (k : Sn cx y enc (pc + 1) ls (vI (Int32.ofNat L) :: st) F) : Sn cx y enc pc ls (vA (some 2) :: st) F :=
  ⟨k.1, fun ok h r h' hF hE H locs lsA hR hm hll => va_slen ok.1 ok.2.1 hX.1 hX.2.1 hX.2.2 hR.2.1 d (k.2 ok h r h' hF hE H locs lsA hR hm hll)⟩
theorem sn_sld {α : Type} {cx : CX} {y : MD} {enc : α → Option LV} {pc : Nat} {ls : List (Nat × LV)} {st : List LV} {xs : Nat → Int32} {L : Nat} (hX : Scr cx xs L) (d : decode y.2.2.1 pc = .ok (.iaload, 1)) {i : Int32} {G : Int32 → Mo α} (kk : ∀ x, Sn cx y enc (pc + 1) ls (vI x :: st) (G x)) : Sn cx y enc pc ls (vI i :: vA (some 2) :: st) (mBd (mLdX xs L i) G) := by
  refine ⟨fun h r h' e => ?_, fun ok h r h' hF hE H locs lsA hR hm hll => ?_⟩
  · obtain ⟨x, h1, e1, e2⟩ := bd_inv e
    unfold mLdX at e1
    split at e1
    · cases e1; exact (kk _).1 _ _ _ e2
    · cases e1
  · obtain ⟨x, h1, e1, e2⟩ := bd_inv hF
    unfold mLdX at e1
    split at e1
    · rename_i hc
      cases e1
      exact va_sld ok.1 ok.2.1 hX.1 hX.2.1 hX.2.2 hR.2.1 hc d ((kk _).2 ok _ _ _ e2 hE H locs lsA hR hm hll)
    · cases e1
/-- led: below 0 where it throws -/
def f_X10_led (o : Option Nat) (f i : Int32) : Mo Int32 := mBd (mGetA 8 8 o) (fun r1 => mBd (mCk 0 r1 (f_X0_fieldAt r1 f)) (fun r2 => if r2 = none then mRt (-1) else mCk 2 r2 (f_X2_powerOfRank r2 i)))
/-- an exception's cell, of which nothing more is said -/
def mExc : Mo Unit := fun h => some ((), hNew h (20, 6))
def f_L_led (o : Option Nat) (f i : Int32) (q : Option Nat) : Mo Int32 := mBd (mCk 8 o (f_X10_led o f i)) (fun r => if r < 0 then mBd mExc (fun _ => mRt 1) else mBd (mStJ q 0 r.toInt64) (fun _ => mRt 0))
abbrev m_L_law : MD := (RL, yL_law, cL_law, 7, (Option.some .boolean), 75, 3918)
theorem nk_L_8 : NK RL 8 RX10 12 := ⟨gw_in 135 (by decide +kernel) (by decide +kernel), gw_in 136 (by decide +kernel) (by decide +kernel), iw_X10⟩
theorem cw_X10_init : Cond.code yX10_init cX10_init 1 (Option.none : Option Jvm.ClassFile.FieldType) ∈ gws := gw_in 139 (by decide +kernel) (by decide +kernel)
theorem lk_L_15 : LKm RL 15 m_X10_init 0 := ⟨(gw_in 137 (by decide +kernel) (by decide +kernel) : Cond.methodLink RL 15 yX10_init ∈ gws), iw_X10, cw_X10_init, (show "TurningSums" ≠ _ by decide), (show "TurningSums" ≠ _ by decide), (by decide +kernel : (parseMethodDescriptor yX10_init.desc).map (fun d => d.parameters.length) = some 0)⟩
theorem nk_L_16 : NK RL 16 RX13 31 := ⟨gw_in 1436 (by decide +kernel) (by decide +kernel), gw_in 1437 (by decide +kernel) (by decide +kernel), iw_X13⟩
theorem cw_X13_init : Cond.code yX13_init cX13_init 1 (Option.none : Option Jvm.ClassFile.FieldType) ∈ gws := gw_in 1440 (by decide +kernel) (by decide +kernel)
theorem lk_L_18 : LKm RL 18 m_X13_init 0 := ⟨(gw_in 1438 (by decide +kernel) (by decide +kernel) : Cond.methodLink RL 18 yX13_init ∈ gws), iw_X13, cw_X13_init, (show "TurningSumsModel" ≠ _ by decide), (show "TurningSumsModel" ≠ _ by decide), (by decide +kernel : (parseMethodDescriptor yX13_init.desc).map (fun d => d.parameters.length) = some 0)⟩
theorem kc_bipush_63 : (Int8.ofInt (63)).toInt32 = (63 : Int32) := by decide +kernel
theorem cw_X10_feed : Cond.code yX10_feed cX10_feed 7 (Option.some Jvm.ClassFile.FieldType.int) ∈ gws := gw_in 486 (by decide +kernel) (by decide +kernel)
theorem lk_L_19 : LKm RL 19 m_X10_feed 5 := ⟨(gw_in 483 (by decide +kernel) (by decide +kernel) : Cond.methodLink RL 19 yX10_feed ∈ gws), iw_X10, cw_X10_feed, (show "TurningSums" ≠ _ by decide), (show "TurningSums" ≠ _ by decide), (by decide +kernel : (parseMethodDescriptor yX10_feed.desc).map (fun d => d.parameters.length) = some 5)⟩
theorem cw_X13_feed : Cond.code yX13_feed cX13_feed 8 (Option.some Jvm.ClassFile.FieldType.int) ∈ gws := gw_in 1543 (by decide +kernel) (by decide +kernel)
theorem lk_L_23 : LKm RL 23 m_X13_feed 5 := ⟨(gw_in 1540 (by decide +kernel) (by decide +kernel) : Cond.methodLink RL 23 yX13_feed ∈ gws), iw_X13, cw_X13_feed, (show "TurningSumsModel" ≠ _ by decide), (show "TurningSumsModel" ≠ _ by decide), (by decide +kernel : (parseMethodDescriptor yX13_feed.desc).map (fun d => d.parameters.length) = some 5)⟩
theorem im_X13_feed : Cond.instanceMethod yX13_feed ∈ gws := gw_in 1541 (by decide +kernel) (by decide +kernel)
theorem se_X13_feed : Cond.selects RX13 yX13_feed yX13_feed ∈ gws := gw_in 1542 (by decide +kernel) (by decide +kernel)
theorem im_X10_feed : Cond.instanceMethod yX10_feed ∈ gws := gw_in 484 (by decide +kernel) (by decide +kernel)
theorem se_X10_feed : Cond.selects RX10 yX10_feed yX10_feed ∈ gws := gw_in 485 (by decide +kernel) (by decide +kernel)
theorem cw_X10_book : Cond.code yX10_book cX10_book 2 (Option.some Jvm.ClassFile.FieldType.int) ∈ gws := gw_in 509 (by decide +kernel) (by decide +kernel)
theorem lk_L_24 : LKm RL 24 m_X10_book 1 := ⟨(gw_in 506 (by decide +kernel) (by decide +kernel) : Cond.methodLink RL 24 yX10_book ∈ gws), iw_X10, cw_X10_book, (show "TurningSums" ≠ _ by decide), (show "TurningSums" ≠ _ by decide), (by decide +kernel : (parseMethodDescriptor yX10_book.desc).map (fun d => d.parameters.length) = some 1)⟩
theorem cw_X13_book : Cond.code yX13_book cX13_book 3 (Option.some Jvm.ClassFile.FieldType.int) ∈ gws := gw_in 1547 (by decide +kernel) (by decide +kernel)
theorem lk_L_28 : LKm RL 28 m_X13_book 1 := ⟨(gw_in 1544 (by decide +kernel) (by decide +kernel) : Cond.methodLink RL 28 yX13_book ∈ gws), iw_X13, cw_X13_book, (show "TurningSumsModel" ≠ _ by decide), (show "TurningSumsModel" ≠ _ by decide), (by decide +kernel : (parseMethodDescriptor yX13_book.desc).map (fun d => d.parameters.length) = some 1)⟩
theorem im_X13_book : Cond.instanceMethod yX13_book ∈ gws := gw_in 1545 (by decide +kernel) (by decide +kernel)
theorem se_X13_book : Cond.selects RX13 yX13_book yX13_book ∈ gws := gw_in 1546 (by decide +kernel) (by decide +kernel)
theorem im_X10_book : Cond.instanceMethod yX10_book ∈ gws := gw_in 507 (by decide +kernel) (by decide +kernel)
theorem se_X10_book : Cond.selects RX10 yX10_book yX10_book ∈ gws := gw_in 508 (by decide +kernel) (by decide +kernel)
theorem cw_X10_fault : Cond.code yX10_fault cX10_fault 1 (Option.some Jvm.ClassFile.FieldType.int) ∈ gws := gw_in 934 (by decide +kernel) (by decide +kernel)
theorem lk_L_29 : LKm RL 29 m_X10_fault 0 := ⟨(gw_in 931 (by decide +kernel) (by decide +kernel) : Cond.methodLink RL 29 yX10_fault ∈ gws), iw_X10, cw_X10_fault, (show "TurningSums" ≠ _ by decide), (show "TurningSums" ≠ _ by decide), (by decide +kernel : (parseMethodDescriptor yX10_fault.desc).map (fun d => d.parameters.length) = some 0)⟩
theorem cw_X13_fault : Cond.code yX13_fault cX13_fault 1 (Option.some Jvm.ClassFile.FieldType.int) ∈ gws := gw_in 1864 (by decide +kernel) (by decide +kernel)
theorem lk_L_33 : LKm RL 33 m_X13_fault 0 := ⟨(gw_in 1861 (by decide +kernel) (by decide +kernel) : Cond.methodLink RL 33 yX13_fault ∈ gws), iw_X13, cw_X13_fault, (show "TurningSumsModel" ≠ _ by decide), (show "TurningSumsModel" ≠ _ by decide), (by decide +kernel : (parseMethodDescriptor yX13_fault.desc).map (fun d => d.parameters.length) = some 0)⟩
theorem im_X13_fault : Cond.instanceMethod yX13_fault ∈ gws := gw_in 1862 (by decide +kernel) (by decide +kernel)
theorem se_X13_fault : Cond.selects RX13 yX13_fault yX13_fault ∈ gws := gw_in 1863 (by decide +kernel) (by decide +kernel)
theorem im_X10_fault : Cond.instanceMethod yX10_fault ∈ gws := gw_in 932 (by decide +kernel) (by decide +kernel)
theorem se_X10_fault : Cond.selects RX10 yX10_fault yX10_fault ∈ gws := gw_in 933 (by decide +kernel) (by decide +kernel)
theorem cw_X10_where : Cond.code yX10_where cX10_where 1 (Option.some Jvm.ClassFile.FieldType.int) ∈ gws := gw_in 938 (by decide +kernel) (by decide +kernel)
theorem lk_L_34 : LKm RL 34 m_X10_where 0 := ⟨(gw_in 935 (by decide +kernel) (by decide +kernel) : Cond.methodLink RL 34 yX10_where ∈ gws), iw_X10, cw_X10_where, (show "TurningSums" ≠ _ by decide), (show "TurningSums" ≠ _ by decide), (by decide +kernel : (parseMethodDescriptor yX10_where.desc).map (fun d => d.parameters.length) = some 0)⟩
theorem cw_X13_where : Cond.code yX13_where cX13_where 1 (Option.some Jvm.ClassFile.FieldType.int) ∈ gws := gw_in 1868 (by decide +kernel) (by decide +kernel)
theorem lk_L_37 : LKm RL 37 m_X13_where 0 := ⟨(gw_in 1865 (by decide +kernel) (by decide +kernel) : Cond.methodLink RL 37 yX13_where ∈ gws), iw_X13, cw_X13_where, (show "TurningSumsModel" ≠ _ by decide), (show "TurningSumsModel" ≠ _ by decide), (by decide +kernel : (parseMethodDescriptor yX13_where.desc).map (fun d => d.parameters.length) = some 0)⟩
theorem im_X13_where : Cond.instanceMethod yX13_where ∈ gws := gw_in 1866 (by decide +kernel) (by decide +kernel)
theorem se_X13_where : Cond.selects RX13 yX13_where yX13_where ∈ gws := gw_in 1867 (by decide +kernel) (by decide +kernel)
theorem im_X10_where : Cond.instanceMethod yX10_where ∈ gws := gw_in 936 (by decide +kernel) (by decide +kernel)
theorem se_X10_where : Cond.selects RX10 yX10_where yX10_where ∈ gws := gw_in 937 (by decide +kernel) (by decide +kernel)
theorem cw_X10_field : Cond.code yX10_field cX10_field 4 (Option.some Jvm.ClassFile.FieldType.int) ∈ gws := gw_in 942 (by decide +kernel) (by decide +kernel)
theorem lk_L_38 : LKm RL 38 m_X10_field 2 := ⟨(gw_in 939 (by decide +kernel) (by decide +kernel) : Cond.methodLink RL 38 yX10_field ∈ gws), iw_X10, cw_X10_field, (show "TurningSums" ≠ _ by decide), (show "TurningSums" ≠ _ by decide), (by decide +kernel : (parseMethodDescriptor yX10_field.desc).map (fun d => d.parameters.length) = some 2)⟩
theorem cw_X13_field : Cond.code yX13_field cX13_field 4 (Option.some Jvm.ClassFile.FieldType.int) ∈ gws := gw_in 1872 (by decide +kernel) (by decide +kernel)
theorem lk_L_41 : LKm RL 41 m_X13_field 2 := ⟨(gw_in 1869 (by decide +kernel) (by decide +kernel) : Cond.methodLink RL 41 yX13_field ∈ gws), iw_X13, cw_X13_field, (show "TurningSumsModel" ≠ _ by decide), (show "TurningSumsModel" ≠ _ by decide), (by decide +kernel : (parseMethodDescriptor yX13_field.desc).map (fun d => d.parameters.length) = some 2)⟩
theorem im_X13_field : Cond.instanceMethod yX13_field ∈ gws := gw_in 1870 (by decide +kernel) (by decide +kernel)
theorem se_X13_field : Cond.selects RX13 yX13_field yX13_field ∈ gws := gw_in 1871 (by decide +kernel) (by decide +kernel)
theorem im_X10_field : Cond.instanceMethod yX10_field ∈ gws := gw_in 940 (by decide +kernel) (by decide +kernel)
theorem se_X10_field : Cond.selects RX10 yX10_field yX10_field ∈ gws := gw_in 941 (by decide +kernel) (by decide +kernel)
theorem cw_X10_log : Cond.code yX10_log cX10_log 4 (Option.some Jvm.ClassFile.FieldType.int) ∈ gws := gw_in 958 (by decide +kernel) (by decide +kernel)
theorem lk_L_42 : LKm RL 42 m_X10_log 2 := ⟨(gw_in 955 (by decide +kernel) (by decide +kernel) : Cond.methodLink RL 42 yX10_log ∈ gws), iw_X10, cw_X10_log, (show "TurningSums" ≠ _ by decide), (show "TurningSums" ≠ _ by decide), (by decide +kernel : (parseMethodDescriptor yX10_log.desc).map (fun d => d.parameters.length) = some 2)⟩
theorem cw_X13_log : Cond.code yX13_log cX13_log 3 (Option.some Jvm.ClassFile.FieldType.int) ∈ gws := gw_in 1880 (by decide +kernel) (by decide +kernel)
theorem lk_L_45 : LKm RL 45 m_X13_log 2 := ⟨(gw_in 1877 (by decide +kernel) (by decide +kernel) : Cond.methodLink RL 45 yX13_log ∈ gws), iw_X13, cw_X13_log, (show "TurningSumsModel" ≠ _ by decide), (show "TurningSumsModel" ≠ _ by decide), (by decide +kernel : (parseMethodDescriptor yX13_log.desc).map (fun d => d.parameters.length) = some 2)⟩
theorem im_X13_log : Cond.instanceMethod yX13_log ∈ gws := gw_in 1878 (by decide +kernel) (by decide +kernel)
theorem se_X13_log : Cond.selects RX13 yX13_log yX13_log ∈ gws := gw_in 1879 (by decide +kernel) (by decide +kernel)
theorem im_X10_log : Cond.instanceMethod yX10_log ∈ gws := gw_in 956 (by decide +kernel) (by decide +kernel)
theorem se_X10_log : Cond.selects RX10 yX10_log yX10_log ∈ gws := gw_in 957 (by decide +kernel) (by decide +kernel)
theorem cw_X10_character : Cond.code yX10_character cX10_character 5 (Option.some Jvm.ClassFile.FieldType.int) ∈ gws := gw_in 970 (by decide +kernel) (by decide +kernel)
theorem lk_L_46 : LKm RL 46 m_X10_character 3 := ⟨(gw_in 967 (by decide +kernel) (by decide +kernel) : Cond.methodLink RL 46 yX10_character ∈ gws), iw_X10, cw_X10_character, (show "TurningSums" ≠ _ by decide), (show "TurningSums" ≠ _ by decide), (by decide +kernel : (parseMethodDescriptor yX10_character.desc).map (fun d => d.parameters.length) = some 3)⟩
theorem cw_X13_character : Cond.code yX13_character cX13_character 4 (Option.some Jvm.ClassFile.FieldType.int) ∈ gws := gw_in 1884 (by decide +kernel) (by decide +kernel)
theorem lk_L_50 : LKm RL 50 m_X13_character 3 := ⟨(gw_in 1881 (by decide +kernel) (by decide +kernel) : Cond.methodLink RL 50 yX13_character ∈ gws), iw_X13, cw_X13_character, (show "TurningSumsModel" ≠ _ by decide), (show "TurningSumsModel" ≠ _ by decide), (by decide +kernel : (parseMethodDescriptor yX13_character.desc).map (fun d => d.parameters.length) = some 3)⟩
theorem im_X13_character : Cond.instanceMethod yX13_character ∈ gws := gw_in 1882 (by decide +kernel) (by decide +kernel)
theorem se_X13_character : Cond.selects RX13 yX13_character yX13_character ∈ gws := gw_in 1883 (by decide +kernel) (by decide +kernel)
theorem im_X10_character : Cond.instanceMethod yX10_character ∈ gws := gw_in 968 (by decide +kernel) (by decide +kernel)
theorem se_X10_character : Cond.selects RX10 yX10_character yX10_character ∈ gws := gw_in 969 (by decide +kernel) (by decide +kernel)
theorem cw_X10_sum : Cond.code yX10_sum cX10_sum 6 (Option.some Jvm.ClassFile.FieldType.int) ∈ gws := gw_in 983 (by decide +kernel) (by decide +kernel)
theorem lk_L_51 : LKm RL 51 m_X10_sum 4 := ⟨(gw_in 980 (by decide +kernel) (by decide +kernel) : Cond.methodLink RL 51 yX10_sum ∈ gws), iw_X10, cw_X10_sum, (show "TurningSums" ≠ _ by decide), (show "TurningSums" ≠ _ by decide), (by decide +kernel : (parseMethodDescriptor yX10_sum.desc).map (fun d => d.parameters.length) = some 4)⟩
theorem cw_X13_sum : Cond.code yX13_sum cX13_sum 5 (Option.some Jvm.ClassFile.FieldType.int) ∈ gws := gw_in 1892 (by decide +kernel) (by decide +kernel)
theorem lk_L_55 : LKm RL 55 m_X13_sum 4 := ⟨(gw_in 1889 (by decide +kernel) (by decide +kernel) : Cond.methodLink RL 55 yX13_sum ∈ gws), iw_X13, cw_X13_sum, (show "TurningSumsModel" ≠ _ by decide), (show "TurningSumsModel" ≠ _ by decide), (by decide +kernel : (parseMethodDescriptor yX13_sum.desc).map (fun d => d.parameters.length) = some 4)⟩
theorem im_X13_sum : Cond.instanceMethod yX13_sum ∈ gws := gw_in 1890 (by decide +kernel) (by decide +kernel)
theorem se_X13_sum : Cond.selects RX13 yX13_sum yX13_sum ∈ gws := gw_in 1891 (by decide +kernel) (by decide +kernel)
theorem im_X10_sum : Cond.instanceMethod yX10_sum ∈ gws := gw_in 981 (by decide +kernel) (by decide +kernel)
theorem se_X10_sum : Cond.selects RX10 yX10_sum yX10_sum ∈ gws := gw_in 982 (by decide +kernel) (by decide +kernel)
theorem cw_X10_norm : Cond.code yX10_norm cX10_norm 6 (Option.some Jvm.ClassFile.FieldType.int) ∈ gws := gw_in 992 (by decide +kernel) (by decide +kernel)
theorem lk_L_56 : LKm RL 56 m_X10_norm 3 := ⟨(gw_in 989 (by decide +kernel) (by decide +kernel) : Cond.methodLink RL 56 yX10_norm ∈ gws), iw_X10, cw_X10_norm, (show "TurningSums" ≠ _ by decide), (show "TurningSums" ≠ _ by decide), (by decide +kernel : (parseMethodDescriptor yX10_norm.desc).map (fun d => d.parameters.length) = some 3)⟩
theorem cw_X13_norm : Cond.code yX13_norm cX13_norm 5 (Option.some Jvm.ClassFile.FieldType.int) ∈ gws := gw_in 1904 (by decide +kernel) (by decide +kernel)
theorem lk_L_59 : LKm RL 59 m_X13_norm 3 := ⟨(gw_in 1901 (by decide +kernel) (by decide +kernel) : Cond.methodLink RL 59 yX13_norm ∈ gws), iw_X13, cw_X13_norm, (show "TurningSumsModel" ≠ _ by decide), (show "TurningSumsModel" ≠ _ by decide), (by decide +kernel : (parseMethodDescriptor yX13_norm.desc).map (fun d => d.parameters.length) = some 3)⟩
theorem im_X13_norm : Cond.instanceMethod yX13_norm ∈ gws := gw_in 1902 (by decide +kernel) (by decide +kernel)
theorem se_X13_norm : Cond.selects RX13 yX13_norm yX13_norm ∈ gws := gw_in 1903 (by decide +kernel) (by decide +kernel)
theorem im_X10_norm : Cond.instanceMethod yX10_norm ∈ gws := gw_in 990 (by decide +kernel) (by decide +kernel)
theorem se_X10_norm : Cond.selects RX10 yX10_norm yX10_norm ∈ gws := gw_in 991 (by decide +kernel) (by decide +kernel)
theorem cw_X10_relation : Cond.code yX10_relation cX10_relation 7 (Option.some Jvm.ClassFile.FieldType.int) ∈ gws := gw_in 1001 (by decide +kernel) (by decide +kernel)
theorem lk_L_60 : LKm RL 60 m_X10_relation 4 := ⟨(gw_in 998 (by decide +kernel) (by decide +kernel) : Cond.methodLink RL 60 yX10_relation ∈ gws), iw_X10, cw_X10_relation, (show "TurningSums" ≠ _ by decide), (show "TurningSums" ≠ _ by decide), (by decide +kernel : (parseMethodDescriptor yX10_relation.desc).map (fun d => d.parameters.length) = some 4)⟩
theorem cw_X13_relation : Cond.code yX13_relation cX13_relation 6 (Option.some Jvm.ClassFile.FieldType.int) ∈ gws := gw_in 1912 (by decide +kernel) (by decide +kernel)
theorem lk_L_63 : LKm RL 63 m_X13_relation 4 := ⟨(gw_in 1909 (by decide +kernel) (by decide +kernel) : Cond.methodLink RL 63 yX13_relation ∈ gws), iw_X13, cw_X13_relation, (show "TurningSumsModel" ≠ _ by decide), (show "TurningSumsModel" ≠ _ by decide), (by decide +kernel : (parseMethodDescriptor yX13_relation.desc).map (fun d => d.parameters.length) = some 4)⟩
theorem im_X13_relation : Cond.instanceMethod yX13_relation ∈ gws := gw_in 1910 (by decide +kernel) (by decide +kernel)
theorem se_X13_relation : Cond.selects RX13 yX13_relation yX13_relation ∈ gws := gw_in 1911 (by decide +kernel) (by decide +kernel)
theorem im_X10_relation : Cond.instanceMethod yX10_relation ∈ gws := gw_in 999 (by decide +kernel) (by decide +kernel)
theorem se_X10_relation : Cond.selects RX10 yX10_relation yX10_relation ∈ gws := gw_in 1000 (by decide +kernel) (by decide +kernel)
theorem cw_X10_part : Cond.code yX10_part cX10_part 6 (Option.some Jvm.ClassFile.FieldType.int) ∈ gws := gw_in 1009 (by decide +kernel) (by decide +kernel)
theorem lk_L_64 : LKm RL 64 m_X10_part 4 := ⟨(gw_in 1006 (by decide +kernel) (by decide +kernel) : Cond.methodLink RL 64 yX10_part ∈ gws), iw_X10, cw_X10_part, (show "TurningSums" ≠ _ by decide), (show "TurningSums" ≠ _ by decide), (by decide +kernel : (parseMethodDescriptor yX10_part.desc).map (fun d => d.parameters.length) = some 4)⟩
theorem cw_X13_part : Cond.code yX13_part cX13_part 5 (Option.some Jvm.ClassFile.FieldType.int) ∈ gws := gw_in 1920 (by decide +kernel) (by decide +kernel)
theorem lk_L_67 : LKm RL 67 m_X13_part 4 := ⟨(gw_in 1917 (by decide +kernel) (by decide +kernel) : Cond.methodLink RL 67 yX13_part ∈ gws), iw_X13, cw_X13_part, (show "TurningSumsModel" ≠ _ by decide), (show "TurningSumsModel" ≠ _ by decide), (by decide +kernel : (parseMethodDescriptor yX13_part.desc).map (fun d => d.parameters.length) = some 4)⟩
theorem im_X13_part : Cond.instanceMethod yX13_part ∈ gws := gw_in 1918 (by decide +kernel) (by decide +kernel)
theorem se_X13_part : Cond.selects RX13 yX13_part yX13_part ∈ gws := gw_in 1919 (by decide +kernel) (by decide +kernel)
theorem im_X10_part : Cond.instanceMethod yX10_part ∈ gws := gw_in 1007 (by decide +kernel) (by decide +kernel)
theorem se_X10_part : Cond.selects RX10 yX10_part yX10_part ∈ gws := gw_in 1008 (by decide +kernel) (by decide +kernel)
theorem cw_X10_law : Cond.code yX10_law cX10_law 7 (Option.some Jvm.ClassFile.FieldType.int) ∈ gws := gw_in 1020 (by decide +kernel) (by decide +kernel)
theorem lk_L_68 : LKm RL 68 m_X10_law 4 := ⟨(gw_in 1017 (by decide +kernel) (by decide +kernel) : Cond.methodLink RL 68 yX10_law ∈ gws), iw_X10, cw_X10_law, (show "TurningSums" ≠ _ by decide), (show "TurningSums" ≠ _ by decide), (by decide +kernel : (parseMethodDescriptor yX10_law.desc).map (fun d => d.parameters.length) = some 4)⟩
theorem cw_X13_law : Cond.code yX13_law cX13_law 6 (Option.some Jvm.ClassFile.FieldType.int) ∈ gws := gw_in 1931 (by decide +kernel) (by decide +kernel)
theorem lk_L_71 : LKm RL 71 m_X13_law 4 := ⟨(gw_in 1928 (by decide +kernel) (by decide +kernel) : Cond.methodLink RL 71 yX13_law ∈ gws), iw_X13, cw_X13_law, (show "TurningSumsModel" ≠ _ by decide), (show "TurningSumsModel" ≠ _ by decide), (by decide +kernel : (parseMethodDescriptor yX13_law.desc).map (fun d => d.parameters.length) = some 4)⟩
theorem im_X13_law : Cond.instanceMethod yX13_law ∈ gws := gw_in 1929 (by decide +kernel) (by decide +kernel)
theorem se_X13_law : Cond.selects RX13 yX13_law yX13_law ∈ gws := gw_in 1930 (by decide +kernel) (by decide +kernel)
theorem im_X10_law : Cond.instanceMethod yX10_law ∈ gws := gw_in 1018 (by decide +kernel) (by decide +kernel)
theorem se_X10_law : Cond.selects RX10 yX10_law yX10_law ∈ gws := gw_in 1019 (by decide +kernel) (by decide +kernel)
theorem cw_X10_parts : Cond.code yX10_parts cX10_parts 7 (Option.some Jvm.ClassFile.FieldType.int) ∈ gws := gw_in 1024 (by decide +kernel) (by decide +kernel)
theorem lk_L_72 : LKm RL 72 m_X10_parts 3 := ⟨(gw_in 1021 (by decide +kernel) (by decide +kernel) : Cond.methodLink RL 72 yX10_parts ∈ gws), iw_X10, cw_X10_parts, (show "TurningSums" ≠ _ by decide), (show "TurningSums" ≠ _ by decide), (by decide +kernel : (parseMethodDescriptor yX10_parts.desc).map (fun d => d.parameters.length) = some 3)⟩
theorem cw_X13_parts : Cond.code yX13_parts cX13_parts 7 (Option.some Jvm.ClassFile.FieldType.int) ∈ gws := gw_in 1935 (by decide +kernel) (by decide +kernel)
theorem lk_L_75 : LKm RL 75 m_X13_parts 3 := ⟨(gw_in 1932 (by decide +kernel) (by decide +kernel) : Cond.methodLink RL 75 yX13_parts ∈ gws), iw_X13, cw_X13_parts, (show "TurningSumsModel" ≠ _ by decide), (show "TurningSumsModel" ≠ _ by decide), (by decide +kernel : (parseMethodDescriptor yX13_parts.desc).map (fun d => d.parameters.length) = some 3)⟩
theorem im_X13_parts : Cond.instanceMethod yX13_parts ∈ gws := gw_in 1933 (by decide +kernel) (by decide +kernel)
theorem se_X13_parts : Cond.selects RX13 yX13_parts yX13_parts ∈ gws := gw_in 1934 (by decide +kernel) (by decide +kernel)
theorem im_X10_parts : Cond.instanceMethod yX10_parts ∈ gws := gw_in 1022 (by decide +kernel) (by decide +kernel)
theorem se_X10_parts : Cond.selects RX10 yX10_parts yX10_parts ∈ gws := gw_in 1023 (by decide +kernel) (by decide +kernel)
theorem cw_X10_let : Cond.code yX10_let cX10_let 4 (Option.some Jvm.ClassFile.FieldType.int) ∈ gws := gw_in 1028 (by decide +kernel) (by decide +kernel)
theorem lk_L_76 : LKm RL 76 m_X10_let 2 := ⟨(gw_in 1025 (by decide +kernel) (by decide +kernel) : Cond.methodLink RL 76 yX10_let ∈ gws), iw_X10, cw_X10_let, (show "TurningSums" ≠ _ by decide), (show "TurningSums" ≠ _ by decide), (by decide +kernel : (parseMethodDescriptor yX10_let.desc).map (fun d => d.parameters.length) = some 2)⟩
theorem cw_X13_let : Cond.code yX13_let cX13_let 3 (Option.some Jvm.ClassFile.FieldType.int) ∈ gws := gw_in 1939 (by decide +kernel) (by decide +kernel)
theorem lk_L_79 : LKm RL 79 m_X13_let 2 := ⟨(gw_in 1936 (by decide +kernel) (by decide +kernel) : Cond.methodLink RL 79 yX13_let ∈ gws), iw_X13, cw_X13_let, (show "TurningSumsModel" ≠ _ by decide), (show "TurningSumsModel" ≠ _ by decide), (by decide +kernel : (parseMethodDescriptor yX13_let.desc).map (fun d => d.parameters.length) = some 2)⟩
theorem im_X13_let : Cond.instanceMethod yX13_let ∈ gws := gw_in 1937 (by decide +kernel) (by decide +kernel)
theorem se_X13_let : Cond.selects RX13 yX13_let yX13_let ∈ gws := gw_in 1938 (by decide +kernel) (by decide +kernel)
theorem im_X10_let : Cond.instanceMethod yX10_let ∈ gws := gw_in 1026 (by decide +kernel) (by decide +kernel)
theorem se_X10_let : Cond.selects RX10 yX10_let yX10_let ∈ gws := gw_in 1027 (by decide +kernel) (by decide +kernel)
theorem cw_X10_letField : Cond.code yX10_letField cX10_letField 3 (Option.some Jvm.ClassFile.FieldType.int) ∈ gws := gw_in 1035 (by decide +kernel) (by decide +kernel)
theorem lk_L_80 : LKm RL 80 m_X10_letField 1 := ⟨(gw_in 1032 (by decide +kernel) (by decide +kernel) : Cond.methodLink RL 80 yX10_letField ∈ gws), iw_X10, cw_X10_letField, (show "TurningSums" ≠ _ by decide), (show "TurningSums" ≠ _ by decide), (by decide +kernel : (parseMethodDescriptor yX10_letField.desc).map (fun d => d.parameters.length) = some 1)⟩
theorem cw_X13_letField : Cond.code yX13_letField cX13_letField 2 (Option.some Jvm.ClassFile.FieldType.int) ∈ gws := gw_in 1952 (by decide +kernel) (by decide +kernel)
theorem lk_L_83 : LKm RL 83 m_X13_letField 1 := ⟨(gw_in 1949 (by decide +kernel) (by decide +kernel) : Cond.methodLink RL 83 yX13_letField ∈ gws), iw_X13, cw_X13_letField, (show "TurningSumsModel" ≠ _ by decide), (show "TurningSumsModel" ≠ _ by decide), (by decide +kernel : (parseMethodDescriptor yX13_letField.desc).map (fun d => d.parameters.length) = some 1)⟩
theorem im_X13_letField : Cond.instanceMethod yX13_letField ∈ gws := gw_in 1950 (by decide +kernel) (by decide +kernel)
theorem se_X13_letField : Cond.selects RX13 yX13_letField yX13_letField ∈ gws := gw_in 1951 (by decide +kernel) (by decide +kernel)
theorem im_X10_letField : Cond.instanceMethod yX10_letField ∈ gws := gw_in 1033 (by decide +kernel) (by decide +kernel)
theorem se_X10_letField : Cond.selects RX10 yX10_letField yX10_letField ∈ gws := gw_in 1034 (by decide +kernel) (by decide +kernel)
theorem cw_X10_letPart : Cond.code yX10_letPart cX10_letPart 4 (Option.some Jvm.ClassFile.FieldType.int) ∈ gws := gw_in 1039 (by decide +kernel) (by decide +kernel)
theorem lk_L_84 : LKm RL 84 m_X10_letPart 2 := ⟨(gw_in 1036 (by decide +kernel) (by decide +kernel) : Cond.methodLink RL 84 yX10_letPart ∈ gws), iw_X10, cw_X10_letPart, (show "TurningSums" ≠ _ by decide), (show "TurningSums" ≠ _ by decide), (by decide +kernel : (parseMethodDescriptor yX10_letPart.desc).map (fun d => d.parameters.length) = some 2)⟩
theorem cw_X13_letPart : Cond.code yX13_letPart cX13_letPart 3 (Option.some Jvm.ClassFile.FieldType.int) ∈ gws := gw_in 1956 (by decide +kernel) (by decide +kernel)
theorem lk_L_87 : LKm RL 87 m_X13_letPart 2 := ⟨(gw_in 1953 (by decide +kernel) (by decide +kernel) : Cond.methodLink RL 87 yX13_letPart ∈ gws), iw_X13, cw_X13_letPart, (show "TurningSumsModel" ≠ _ by decide), (show "TurningSumsModel" ≠ _ by decide), (by decide +kernel : (parseMethodDescriptor yX13_letPart.desc).map (fun d => d.parameters.length) = some 2)⟩
theorem im_X13_letPart : Cond.instanceMethod yX13_letPart ∈ gws := gw_in 1954 (by decide +kernel) (by decide +kernel)
theorem se_X13_letPart : Cond.selects RX13 yX13_letPart yX13_letPart ∈ gws := gw_in 1955 (by decide +kernel) (by decide +kernel)
theorem im_X10_letPart : Cond.instanceMethod yX10_letPart ∈ gws := gw_in 1037 (by decide +kernel) (by decide +kernel)
theorem se_X10_letPart : Cond.selects RX10 yX10_letPart yX10_letPart ∈ gws := gw_in 1038 (by decide +kernel) (by decide +kernel)
theorem cw_X10_whole : Cond.code yX10_whole cX10_whole 2 (Option.some Jvm.ClassFile.FieldType.int) ∈ gws := gw_in 1043 (by decide +kernel) (by decide +kernel)
theorem lk_L_88 : LKm RL 88 m_X10_whole 1 := ⟨(gw_in 1040 (by decide +kernel) (by decide +kernel) : Cond.methodLink RL 88 yX10_whole ∈ gws), iw_X10, cw_X10_whole, (show "TurningSums" ≠ _ by decide), (show "TurningSums" ≠ _ by decide), (by decide +kernel : (parseMethodDescriptor yX10_whole.desc).map (fun d => d.parameters.length) = some 1)⟩
theorem cw_X13_whole : Cond.code yX13_whole cX13_whole 2 (Option.some Jvm.ClassFile.FieldType.int) ∈ gws := gw_in 1964 (by decide +kernel) (by decide +kernel)
theorem lk_L_91 : LKm RL 91 m_X13_whole 1 := ⟨(gw_in 1961 (by decide +kernel) (by decide +kernel) : Cond.methodLink RL 91 yX13_whole ∈ gws), iw_X13, cw_X13_whole, (show "TurningSumsModel" ≠ _ by decide), (show "TurningSumsModel" ≠ _ by decide), (by decide +kernel : (parseMethodDescriptor yX13_whole.desc).map (fun d => d.parameters.length) = some 1)⟩
theorem im_X13_whole : Cond.instanceMethod yX13_whole ∈ gws := gw_in 1962 (by decide +kernel) (by decide +kernel)
theorem se_X13_whole : Cond.selects RX13 yX13_whole yX13_whole ∈ gws := gw_in 1963 (by decide +kernel) (by decide +kernel)
theorem im_X10_whole : Cond.instanceMethod yX10_whole ∈ gws := gw_in 1041 (by decide +kernel) (by decide +kernel)
theorem se_X10_whole : Cond.selects RX10 yX10_whole yX10_whole ∈ gws := gw_in 1042 (by decide +kernel) (by decide +kernel)
theorem cw_X10_count : Cond.code yX10_count cX10_count 3 (Option.some Jvm.ClassFile.FieldType.int) ∈ gws := gw_in 1047 (by decide +kernel) (by decide +kernel)
theorem lk_L_92 : LKm RL 92 m_X10_count 1 := ⟨(gw_in 1044 (by decide +kernel) (by decide +kernel) : Cond.methodLink RL 92 yX10_count ∈ gws), iw_X10, cw_X10_count, (show "TurningSums" ≠ _ by decide), (show "TurningSums" ≠ _ by decide), (by decide +kernel : (parseMethodDescriptor yX10_count.desc).map (fun d => d.parameters.length) = some 1)⟩
theorem cw_X13_count : Cond.code yX13_count cX13_count 2 (Option.some Jvm.ClassFile.FieldType.int) ∈ gws := gw_in 1968 (by decide +kernel) (by decide +kernel)
theorem lk_L_95 : LKm RL 95 m_X13_count 1 := ⟨(gw_in 1965 (by decide +kernel) (by decide +kernel) : Cond.methodLink RL 95 yX13_count ∈ gws), iw_X13, cw_X13_count, (show "TurningSumsModel" ≠ _ by decide), (show "TurningSumsModel" ≠ _ by decide), (by decide +kernel : (parseMethodDescriptor yX13_count.desc).map (fun d => d.parameters.length) = some 1)⟩
theorem im_X13_count : Cond.instanceMethod yX13_count ∈ gws := gw_in 1966 (by decide +kernel) (by decide +kernel)
theorem se_X13_count : Cond.selects RX13 yX13_count yX13_count ∈ gws := gw_in 1967 (by decide +kernel) (by decide +kernel)
theorem im_X10_count : Cond.instanceMethod yX10_count ∈ gws := gw_in 1045 (by decide +kernel) (by decide +kernel)
theorem se_X10_count : Cond.selects RX10 yX10_count yX10_count ∈ gws := gw_in 1046 (by decide +kernel) (by decide +kernel)
theorem cw_X10_countOf : Cond.code yX10_countOf cX10_countOf 4 (Option.some Jvm.ClassFile.FieldType.int) ∈ gws := gw_in 1077 (by decide +kernel) (by decide +kernel)
theorem lk_L_96 : LKm RL 96 m_X10_countOf 2 := ⟨(gw_in 1074 (by decide +kernel) (by decide +kernel) : Cond.methodLink RL 96 yX10_countOf ∈ gws), iw_X10, cw_X10_countOf, (show "TurningSums" ≠ _ by decide), (show "TurningSums" ≠ _ by decide), (by decide +kernel : (parseMethodDescriptor yX10_countOf.desc).map (fun d => d.parameters.length) = some 2)⟩
theorem cw_X13_countOf : Cond.code yX13_countOf cX13_countOf 3 (Option.some Jvm.ClassFile.FieldType.int) ∈ gws := gw_in 1980 (by decide +kernel) (by decide +kernel)
theorem lk_L_99 : LKm RL 99 m_X13_countOf 2 := ⟨(gw_in 1977 (by decide +kernel) (by decide +kernel) : Cond.methodLink RL 99 yX13_countOf ∈ gws), iw_X13, cw_X13_countOf, (show "TurningSumsModel" ≠ _ by decide), (show "TurningSumsModel" ≠ _ by decide), (by decide +kernel : (parseMethodDescriptor yX13_countOf.desc).map (fun d => d.parameters.length) = some 2)⟩
theorem im_X13_countOf : Cond.instanceMethod yX13_countOf ∈ gws := gw_in 1978 (by decide +kernel) (by decide +kernel)
theorem se_X13_countOf : Cond.selects RX13 yX13_countOf yX13_countOf ∈ gws := gw_in 1979 (by decide +kernel) (by decide +kernel)
theorem im_X10_countOf : Cond.instanceMethod yX10_countOf ∈ gws := gw_in 1075 (by decide +kernel) (by decide +kernel)
theorem se_X10_countOf : Cond.selects RX10 yX10_countOf yX10_countOf ∈ gws := gw_in 1076 (by decide +kernel) (by decide +kernel)
theorem cw_X10_curve : Cond.code yX10_curve cX10_curve 4 (Option.some Jvm.ClassFile.FieldType.long) ∈ gws := gw_in 1082 (by decide +kernel) (by decide +kernel)
theorem lk_L_100 : LKm RL 100 m_X10_curve 2 := ⟨(gw_in 1079 (by decide +kernel) (by decide +kernel) : Cond.methodLink RL 100 yX10_curve ∈ gws), iw_X10, cw_X10_curve, (show "TurningSums" ≠ _ by decide), (show "TurningSums" ≠ _ by decide), (by decide +kernel : (parseMethodDescriptor yX10_curve.desc).map (fun d => d.parameters.length) = some 2)⟩
theorem cw_X13_curve : Cond.code yX13_curve cX13_curve 6 (Option.some Jvm.ClassFile.FieldType.long) ∈ gws := gw_in 1984 (by decide +kernel) (by decide +kernel)
theorem lk_L_104 : LKm RL 104 m_X13_curve 2 := ⟨(gw_in 1981 (by decide +kernel) (by decide +kernel) : Cond.methodLink RL 104 yX13_curve ∈ gws), iw_X13, cw_X13_curve, (show "TurningSumsModel" ≠ _ by decide), (show "TurningSumsModel" ≠ _ by decide), (by decide +kernel : (parseMethodDescriptor yX13_curve.desc).map (fun d => d.parameters.length) = some 2)⟩
theorem im_X13_curve : Cond.instanceMethod yX13_curve ∈ gws := gw_in 1982 (by decide +kernel) (by decide +kernel)
theorem se_X13_curve : Cond.selects RX13 yX13_curve yX13_curve ∈ gws := gw_in 1983 (by decide +kernel) (by decide +kernel)
theorem im_X10_curve : Cond.instanceMethod yX10_curve ∈ gws := gw_in 1080 (by decide +kernel) (by decide +kernel)
theorem se_X10_curve : Cond.selects RX10 yX10_curve yX10_curve ∈ gws := gw_in 1081 (by decide +kernel) (by decide +kernel)
theorem cw_X10_sign : Cond.code yX10_sign cX10_sign 3 (Option.some Jvm.ClassFile.FieldType.int) ∈ gws := gw_in 1101 (by decide +kernel) (by decide +kernel)
theorem lk_L_105 : LKm RL 105 m_X10_sign 2 := ⟨(gw_in 1098 (by decide +kernel) (by decide +kernel) : Cond.methodLink RL 105 yX10_sign ∈ gws), iw_X10, cw_X10_sign, (show "TurningSums" ≠ _ by decide), (show "TurningSums" ≠ _ by decide), (by decide +kernel : (parseMethodDescriptor yX10_sign.desc).map (fun d => d.parameters.length) = some 2)⟩
theorem cw_X13_sign : Cond.code yX13_sign cX13_sign 3 (Option.some Jvm.ClassFile.FieldType.int) ∈ gws := gw_in 1996 (by decide +kernel) (by decide +kernel)
theorem lk_L_108 : LKm RL 108 m_X13_sign 2 := ⟨(gw_in 1993 (by decide +kernel) (by decide +kernel) : Cond.methodLink RL 108 yX13_sign ∈ gws), iw_X13, cw_X13_sign, (show "TurningSumsModel" ≠ _ by decide), (show "TurningSumsModel" ≠ _ by decide), (by decide +kernel : (parseMethodDescriptor yX13_sign.desc).map (fun d => d.parameters.length) = some 2)⟩
theorem im_X13_sign : Cond.instanceMethod yX13_sign ∈ gws := gw_in 1994 (by decide +kernel) (by decide +kernel)
theorem se_X13_sign : Cond.selects RX13 yX13_sign yX13_sign ∈ gws := gw_in 1995 (by decide +kernel) (by decide +kernel)
theorem im_X10_sign : Cond.instanceMethod yX10_sign ∈ gws := gw_in 1099 (by decide +kernel) (by decide +kernel)
theorem se_X10_sign : Cond.selects RX10 yX10_sign yX10_sign ∈ gws := gw_in 1100 (by decide +kernel) (by decide +kernel)
theorem cw_X10_both : Cond.code yX10_both cX10_both 3 (Option.some Jvm.ClassFile.FieldType.int) ∈ gws := gw_in 1110 (by decide +kernel) (by decide +kernel)
theorem lk_L_109 : LKm RL 109 m_X10_both 2 := ⟨(gw_in 1107 (by decide +kernel) (by decide +kernel) : Cond.methodLink RL 109 yX10_both ∈ gws), iw_X10, cw_X10_both, (show "TurningSums" ≠ _ by decide), (show "TurningSums" ≠ _ by decide), (by decide +kernel : (parseMethodDescriptor yX10_both.desc).map (fun d => d.parameters.length) = some 2)⟩
theorem cw_X13_both : Cond.code yX13_both cX13_both 3 (Option.some Jvm.ClassFile.FieldType.int) ∈ gws := gw_in 2006 (by decide +kernel) (by decide +kernel)
theorem lk_L_112 : LKm RL 112 m_X13_both 2 := ⟨(gw_in 2003 (by decide +kernel) (by decide +kernel) : Cond.methodLink RL 112 yX13_both ∈ gws), iw_X13, cw_X13_both, (show "TurningSumsModel" ≠ _ by decide), (show "TurningSumsModel" ≠ _ by decide), (by decide +kernel : (parseMethodDescriptor yX13_both.desc).map (fun d => d.parameters.length) = some 2)⟩
theorem im_X13_both : Cond.instanceMethod yX13_both ∈ gws := gw_in 2004 (by decide +kernel) (by decide +kernel)
theorem se_X13_both : Cond.selects RX13 yX13_both yX13_both ∈ gws := gw_in 2005 (by decide +kernel) (by decide +kernel)
theorem im_X10_both : Cond.instanceMethod yX10_both ∈ gws := gw_in 1108 (by decide +kernel) (by decide +kernel)
theorem se_X10_both : Cond.selects RX10 yX10_both yX10_both ∈ gws := gw_in 1109 (by decide +kernel) (by decide +kernel)
theorem cw_X10_form : Cond.code yX10_form cX10_form 3 (Option.some Jvm.ClassFile.FieldType.int) ∈ gws := gw_in 1114 (by decide +kernel) (by decide +kernel)
theorem lk_L_113 : LKm RL 113 m_X10_form 2 := ⟨(gw_in 1111 (by decide +kernel) (by decide +kernel) : Cond.methodLink RL 113 yX10_form ∈ gws), iw_X10, cw_X10_form, (show "TurningSums" ≠ _ by decide), (show "TurningSums" ≠ _ by decide), (by decide +kernel : (parseMethodDescriptor yX10_form.desc).map (fun d => d.parameters.length) = some 2)⟩
theorem cw_X13_form : Cond.code yX13_form cX13_form 4 (Option.some Jvm.ClassFile.FieldType.int) ∈ gws := gw_in 2010 (by decide +kernel) (by decide +kernel)
theorem lk_L_116 : LKm RL 116 m_X13_form 2 := ⟨(gw_in 2007 (by decide +kernel) (by decide +kernel) : Cond.methodLink RL 116 yX13_form ∈ gws), iw_X13, cw_X13_form, (show "TurningSumsModel" ≠ _ by decide), (show "TurningSumsModel" ≠ _ by decide), (by decide +kernel : (parseMethodDescriptor yX13_form.desc).map (fun d => d.parameters.length) = some 2)⟩
theorem im_X13_form : Cond.instanceMethod yX13_form ∈ gws := gw_in 2008 (by decide +kernel) (by decide +kernel)
theorem se_X13_form : Cond.selects RX13 yX13_form yX13_form ∈ gws := gw_in 2009 (by decide +kernel) (by decide +kernel)
theorem im_X10_form : Cond.instanceMethod yX10_form ∈ gws := gw_in 1112 (by decide +kernel) (by decide +kernel)
theorem se_X10_form : Cond.selects RX10 yX10_form yX10_form ∈ gws := gw_in 1113 (by decide +kernel) (by decide +kernel)
theorem cw_X10_power : Cond.code yX10_power cX10_power 5 (Option.some Jvm.ClassFile.FieldType.int) ∈ gws := gw_in 1124 (by decide +kernel) (by decide +kernel)
theorem lk_L_117 : LKm RL 117 m_X10_power 3 := ⟨(gw_in 1121 (by decide +kernel) (by decide +kernel) : Cond.methodLink RL 117 yX10_power ∈ gws), iw_X10, cw_X10_power, (show "TurningSums" ≠ _ by decide), (show "TurningSums" ≠ _ by decide), (by decide +kernel : (parseMethodDescriptor yX10_power.desc).map (fun d => d.parameters.length) = some 3)⟩
theorem cw_X13_power : Cond.code yX13_power cX13_power 4 (Option.some Jvm.ClassFile.FieldType.int) ∈ gws := gw_in 2017 (by decide +kernel) (by decide +kernel)
theorem lk_L_120 : LKm RL 120 m_X13_power 3 := ⟨(gw_in 2014 (by decide +kernel) (by decide +kernel) : Cond.methodLink RL 120 yX13_power ∈ gws), iw_X13, cw_X13_power, (show "TurningSumsModel" ≠ _ by decide), (show "TurningSumsModel" ≠ _ by decide), (by decide +kernel : (parseMethodDescriptor yX13_power.desc).map (fun d => d.parameters.length) = some 3)⟩
theorem im_X13_power : Cond.instanceMethod yX13_power ∈ gws := gw_in 2015 (by decide +kernel) (by decide +kernel)
theorem se_X13_power : Cond.selects RX13 yX13_power yX13_power ∈ gws := gw_in 2016 (by decide +kernel) (by decide +kernel)
theorem im_X10_power : Cond.instanceMethod yX10_power ∈ gws := gw_in 1122 (by decide +kernel) (by decide +kernel)
theorem se_X10_power : Cond.selects RX10 yX10_power yX10_power ∈ gws := gw_in 1123 (by decide +kernel) (by decide +kernel)
theorem cw_X10_classSums : Cond.code yX10_classSums cX10_classSums 2 (Option.some Jvm.ClassFile.FieldType.int) ∈ gws := gw_in 1133 (by decide +kernel) (by decide +kernel)
theorem lk_L_121 : LKm RL 121 m_X10_classSums 1 := ⟨(gw_in 1130 (by decide +kernel) (by decide +kernel) : Cond.methodLink RL 121 yX10_classSums ∈ gws), iw_X10, cw_X10_classSums, (show "TurningSums" ≠ _ by decide), (show "TurningSums" ≠ _ by decide), (by decide +kernel : (parseMethodDescriptor yX10_classSums.desc).map (fun d => d.parameters.length) = some 1)⟩
theorem cw_X13_classSums : Cond.code yX13_classSums cX13_classSums 4 (Option.some Jvm.ClassFile.FieldType.int) ∈ gws := gw_in 2022 (by decide +kernel) (by decide +kernel)
theorem lk_L_124 : LKm RL 124 m_X13_classSums 1 := ⟨(gw_in 2019 (by decide +kernel) (by decide +kernel) : Cond.methodLink RL 124 yX13_classSums ∈ gws), iw_X13, cw_X13_classSums, (show "TurningSumsModel" ≠ _ by decide), (show "TurningSumsModel" ≠ _ by decide), (by decide +kernel : (parseMethodDescriptor yX13_classSums.desc).map (fun d => d.parameters.length) = some 1)⟩
theorem im_X13_classSums : Cond.instanceMethod yX13_classSums ∈ gws := gw_in 2020 (by decide +kernel) (by decide +kernel)
theorem se_X13_classSums : Cond.selects RX13 yX13_classSums yX13_classSums ∈ gws := gw_in 2021 (by decide +kernel) (by decide +kernel)
theorem im_X10_classSums : Cond.instanceMethod yX10_classSums ∈ gws := gw_in 1131 (by decide +kernel) (by decide +kernel)
theorem se_X10_classSums : Cond.selects RX10 yX10_classSums yX10_classSums ∈ gws := gw_in 1132 (by decide +kernel) (by decide +kernel)
theorem cw_X10_classForms : Cond.code yX10_classForms cX10_classForms 2 (Option.some Jvm.ClassFile.FieldType.int) ∈ gws := gw_in 1141 (by decide +kernel) (by decide +kernel)
theorem lk_L_125 : LKm RL 125 m_X10_classForms 1 := ⟨(gw_in 1138 (by decide +kernel) (by decide +kernel) : Cond.methodLink RL 125 yX10_classForms ∈ gws), iw_X10, cw_X10_classForms, (show "TurningSums" ≠ _ by decide), (show "TurningSums" ≠ _ by decide), (by decide +kernel : (parseMethodDescriptor yX10_classForms.desc).map (fun d => d.parameters.length) = some 1)⟩
theorem cw_X13_classForms : Cond.code yX13_classForms cX13_classForms 6 (Option.some Jvm.ClassFile.FieldType.int) ∈ gws := gw_in 2026 (by decide +kernel) (by decide +kernel)
theorem lk_L_128 : LKm RL 128 m_X13_classForms 1 := ⟨(gw_in 2023 (by decide +kernel) (by decide +kernel) : Cond.methodLink RL 128 yX13_classForms ∈ gws), iw_X13, cw_X13_classForms, (show "TurningSumsModel" ≠ _ by decide), (show "TurningSumsModel" ≠ _ by decide), (by decide +kernel : (parseMethodDescriptor yX13_classForms.desc).map (fun d => d.parameters.length) = some 1)⟩
theorem im_X13_classForms : Cond.instanceMethod yX13_classForms ∈ gws := gw_in 2024 (by decide +kernel) (by decide +kernel)
theorem se_X13_classForms : Cond.selects RX13 yX13_classForms yX13_classForms ∈ gws := gw_in 2025 (by decide +kernel) (by decide +kernel)
theorem im_X10_classForms : Cond.instanceMethod yX10_classForms ∈ gws := gw_in 1139 (by decide +kernel) (by decide +kernel)
theorem se_X10_classForms : Cond.selects RX10 yX10_classForms yX10_classForms ∈ gws := gw_in 1140 (by decide +kernel) (by decide +kernel)
theorem cw_X10_meets : Cond.code yX10_meets cX10_meets 5 (Option.some Jvm.ClassFile.FieldType.int) ∈ gws := gw_in 1152 (by decide +kernel) (by decide +kernel)
theorem lk_L_129 : LKm RL 129 m_X10_meets 3 := ⟨(gw_in 1149 (by decide +kernel) (by decide +kernel) : Cond.methodLink RL 129 yX10_meets ∈ gws), iw_X10, cw_X10_meets, (show "TurningSums" ≠ _ by decide), (show "TurningSums" ≠ _ by decide), (by decide +kernel : (parseMethodDescriptor yX10_meets.desc).map (fun d => d.parameters.length) = some 3)⟩
theorem cw_X13_meets : Cond.code yX13_meets cX13_meets 7 (Option.some Jvm.ClassFile.FieldType.int) ∈ gws := gw_in 2030 (by decide +kernel) (by decide +kernel)
theorem lk_L_132 : LKm RL 132 m_X13_meets 3 := ⟨(gw_in 2027 (by decide +kernel) (by decide +kernel) : Cond.methodLink RL 132 yX13_meets ∈ gws), iw_X13, cw_X13_meets, (show "TurningSumsModel" ≠ _ by decide), (show "TurningSumsModel" ≠ _ by decide), (by decide +kernel : (parseMethodDescriptor yX13_meets.desc).map (fun d => d.parameters.length) = some 3)⟩
theorem im_X13_meets : Cond.instanceMethod yX13_meets ∈ gws := gw_in 2028 (by decide +kernel) (by decide +kernel)
theorem se_X13_meets : Cond.selects RX13 yX13_meets yX13_meets ∈ gws := gw_in 2029 (by decide +kernel) (by decide +kernel)
theorem im_X10_meets : Cond.instanceMethod yX10_meets ∈ gws := gw_in 1150 (by decide +kernel) (by decide +kernel)
theorem se_X10_meets : Cond.selects RX10 yX10_meets yX10_meets ∈ gws := gw_in 1151 (by decide +kernel) (by decide +kernel)
theorem cw_X10_even : Cond.code yX10_even cX10_even 3 (Option.some Jvm.ClassFile.FieldType.int) ∈ gws := gw_in 1160 (by decide +kernel) (by decide +kernel)
theorem lk_L_133 : LKm RL 133 m_X10_even 1 := ⟨(gw_in 1157 (by decide +kernel) (by decide +kernel) : Cond.methodLink RL 133 yX10_even ∈ gws), iw_X10, cw_X10_even, (show "TurningSums" ≠ _ by decide), (show "TurningSums" ≠ _ by decide), (by decide +kernel : (parseMethodDescriptor yX10_even.desc).map (fun d => d.parameters.length) = some 1)⟩
theorem cw_X13_even : Cond.code yX13_even cX13_even 8 (Option.some Jvm.ClassFile.FieldType.int) ∈ gws := gw_in 2034 (by decide +kernel) (by decide +kernel)
theorem lk_L_136 : LKm RL 136 m_X13_even 1 := ⟨(gw_in 2031 (by decide +kernel) (by decide +kernel) : Cond.methodLink RL 136 yX13_even ∈ gws), iw_X13, cw_X13_even, (show "TurningSumsModel" ≠ _ by decide), (show "TurningSumsModel" ≠ _ by decide), (by decide +kernel : (parseMethodDescriptor yX13_even.desc).map (fun d => d.parameters.length) = some 1)⟩
theorem im_X13_even : Cond.instanceMethod yX13_even ∈ gws := gw_in 2032 (by decide +kernel) (by decide +kernel)
theorem se_X13_even : Cond.selects RX13 yX13_even yX13_even ∈ gws := gw_in 2033 (by decide +kernel) (by decide +kernel)
theorem im_X10_even : Cond.instanceMethod yX10_even ∈ gws := gw_in 1158 (by decide +kernel) (by decide +kernel)
theorem se_X10_even : Cond.selects RX10 yX10_even yX10_even ∈ gws := gw_in 1159 (by decide +kernel) (by decide +kernel)
theorem cw_X10_echo : Cond.code yX10_echo cX10_echo 5 (Option.some Jvm.ClassFile.FieldType.int) ∈ gws := gw_in 1172 (by decide +kernel) (by decide +kernel)
theorem lk_L_137 : LKm RL 137 m_X10_echo 3 := ⟨(gw_in 1169 (by decide +kernel) (by decide +kernel) : Cond.methodLink RL 137 yX10_echo ∈ gws), iw_X10, cw_X10_echo, (show "TurningSums" ≠ _ by decide), (show "TurningSums" ≠ _ by decide), (by decide +kernel : (parseMethodDescriptor yX10_echo.desc).map (fun d => d.parameters.length) = some 3)⟩
theorem cw_X13_echo : Cond.code yX13_echo cX13_echo 5 (Option.some Jvm.ClassFile.FieldType.int) ∈ gws := gw_in 2038 (by decide +kernel) (by decide +kernel)
theorem lk_L_140 : LKm RL 140 m_X13_echo 3 := ⟨(gw_in 2035 (by decide +kernel) (by decide +kernel) : Cond.methodLink RL 140 yX13_echo ∈ gws), iw_X13, cw_X13_echo, (show "TurningSumsModel" ≠ _ by decide), (show "TurningSumsModel" ≠ _ by decide), (by decide +kernel : (parseMethodDescriptor yX13_echo.desc).map (fun d => d.parameters.length) = some 3)⟩
theorem im_X13_echo : Cond.instanceMethod yX13_echo ∈ gws := gw_in 2036 (by decide +kernel) (by decide +kernel)
theorem se_X13_echo : Cond.selects RX13 yX13_echo yX13_echo ∈ gws := gw_in 2037 (by decide +kernel) (by decide +kernel)
theorem im_X10_echo : Cond.instanceMethod yX10_echo ∈ gws := gw_in 1170 (by decide +kernel) (by decide +kernel)
theorem se_X10_echo : Cond.selects RX10 yX10_echo yX10_echo ∈ gws := gw_in 1171 (by decide +kernel) (by decide +kernel)
theorem cw_X10_noise : Cond.code yX10_noise cX10_noise 4 (Option.some Jvm.ClassFile.FieldType.long) ∈ gws := gw_in 1193 (by decide +kernel) (by decide +kernel)
theorem lk_L_141 : LKm RL 141 m_X10_noise 2 := ⟨(gw_in 1190 (by decide +kernel) (by decide +kernel) : Cond.methodLink RL 141 yX10_noise ∈ gws), iw_X10, cw_X10_noise, (show "TurningSums" ≠ _ by decide), (show "TurningSums" ≠ _ by decide), (by decide +kernel : (parseMethodDescriptor yX10_noise.desc).map (fun d => d.parameters.length) = some 2)⟩
theorem cw_X13_noise : Cond.code yX13_noise cX13_noise 4 (Option.some Jvm.ClassFile.FieldType.long) ∈ gws := gw_in 2054 (by decide +kernel) (by decide +kernel)
theorem lk_L_144 : LKm RL 144 m_X13_noise 2 := ⟨(gw_in 2051 (by decide +kernel) (by decide +kernel) : Cond.methodLink RL 144 yX13_noise ∈ gws), iw_X13, cw_X13_noise, (show "TurningSumsModel" ≠ _ by decide), (show "TurningSumsModel" ≠ _ by decide), (by decide +kernel : (parseMethodDescriptor yX13_noise.desc).map (fun d => d.parameters.length) = some 2)⟩
theorem im_X13_noise : Cond.instanceMethod yX13_noise ∈ gws := gw_in 2052 (by decide +kernel) (by decide +kernel)
theorem se_X13_noise : Cond.selects RX13 yX13_noise yX13_noise ∈ gws := gw_in 2053 (by decide +kernel) (by decide +kernel)
theorem im_X10_noise : Cond.instanceMethod yX10_noise ∈ gws := gw_in 1191 (by decide +kernel) (by decide +kernel)
theorem se_X10_noise : Cond.selects RX10 yX10_noise yX10_noise ∈ gws := gw_in 1192 (by decide +kernel) (by decide +kernel)
theorem cw_X10_lowest : Cond.code yX10_lowest cX10_lowest 3 (Option.some Jvm.ClassFile.FieldType.int) ∈ gws := gw_in 1202 (by decide +kernel) (by decide +kernel)
theorem lk_L_145 : LKm RL 145 m_X10_lowest 1 := ⟨(gw_in 1199 (by decide +kernel) (by decide +kernel) : Cond.methodLink RL 145 yX10_lowest ∈ gws), iw_X10, cw_X10_lowest, (show "TurningSums" ≠ _ by decide), (show "TurningSums" ≠ _ by decide), (by decide +kernel : (parseMethodDescriptor yX10_lowest.desc).map (fun d => d.parameters.length) = some 1)⟩
theorem cw_X13_lowest : Cond.code yX13_lowest cX13_lowest 8 (Option.some Jvm.ClassFile.FieldType.int) ∈ gws := gw_in 2062 (by decide +kernel) (by decide +kernel)
theorem lk_L_148 : LKm RL 148 m_X13_lowest 1 := ⟨(gw_in 2059 (by decide +kernel) (by decide +kernel) : Cond.methodLink RL 148 yX13_lowest ∈ gws), iw_X13, cw_X13_lowest, (show "TurningSumsModel" ≠ _ by decide), (show "TurningSumsModel" ≠ _ by decide), (by decide +kernel : (parseMethodDescriptor yX13_lowest.desc).map (fun d => d.parameters.length) = some 1)⟩
theorem im_X13_lowest : Cond.instanceMethod yX13_lowest ∈ gws := gw_in 2060 (by decide +kernel) (by decide +kernel)
theorem se_X13_lowest : Cond.selects RX13 yX13_lowest yX13_lowest ∈ gws := gw_in 2061 (by decide +kernel) (by decide +kernel)
theorem im_X10_lowest : Cond.instanceMethod yX10_lowest ∈ gws := gw_in 1200 (by decide +kernel) (by decide +kernel)
theorem se_X10_lowest : Cond.selects RX10 yX10_lowest yX10_lowest ∈ gws := gw_in 1201 (by decide +kernel) (by decide +kernel)
theorem cw_X10_choose : Cond.code yX10_choose cX10_choose 2 (Option.some Jvm.ClassFile.FieldType.boolean) ∈ gws := gw_in 1218 (by decide +kernel) (by decide +kernel)
theorem lk_L_149 : LKm RL 149 m_X10_choose 1 := ⟨(gw_in 1215 (by decide +kernel) (by decide +kernel) : Cond.methodLink RL 149 yX10_choose ∈ gws), iw_X10, cw_X10_choose, (show "TurningSums" ≠ _ by decide), (show "TurningSums" ≠ _ by decide), (by decide +kernel : (parseMethodDescriptor yX10_choose.desc).map (fun d => d.parameters.length) = some 1)⟩
theorem cw_X13_choose : Cond.code yX13_choose cX13_choose 3 (Option.some Jvm.ClassFile.FieldType.boolean) ∈ gws := gw_in 2066 (by decide +kernel) (by decide +kernel)
theorem lk_L_153 : LKm RL 153 m_X13_choose 1 := ⟨(gw_in 2063 (by decide +kernel) (by decide +kernel) : Cond.methodLink RL 153 yX13_choose ∈ gws), iw_X13, cw_X13_choose, (show "TurningSumsModel" ≠ _ by decide), (show "TurningSumsModel" ≠ _ by decide), (by decide +kernel : (parseMethodDescriptor yX13_choose.desc).map (fun d => d.parameters.length) = some 1)⟩
theorem im_X13_choose : Cond.instanceMethod yX13_choose ∈ gws := gw_in 2064 (by decide +kernel) (by decide +kernel)
theorem se_X13_choose : Cond.selects RX13 yX13_choose yX13_choose ∈ gws := gw_in 2065 (by decide +kernel) (by decide +kernel)
theorem im_X10_choose : Cond.instanceMethod yX10_choose ∈ gws := gw_in 1216 (by decide +kernel) (by decide +kernel)
theorem se_X10_choose : Cond.selects RX10 yX10_choose yX10_choose ∈ gws := gw_in 1217 (by decide +kernel) (by decide +kernel)
theorem cw_X10_register : Cond.code yX10_register cX10_register 4 (Option.some Jvm.ClassFile.FieldType.int) ∈ gws := gw_in 1241 (by decide +kernel) (by decide +kernel)
theorem lk_L_154 : LKm RL 154 m_X10_register 2 := ⟨(gw_in 1238 (by decide +kernel) (by decide +kernel) : Cond.methodLink RL 154 yX10_register ∈ gws), iw_X10, cw_X10_register, (show "TurningSums" ≠ _ by decide), (show "TurningSums" ≠ _ by decide), (by decide +kernel : (parseMethodDescriptor yX10_register.desc).map (fun d => d.parameters.length) = some 2)⟩
theorem cw_X13_register : Cond.code yX13_register cX13_register 3 (Option.some Jvm.ClassFile.FieldType.int) ∈ gws := gw_in 2086 (by decide +kernel) (by decide +kernel)
theorem lk_L_157 : LKm RL 157 m_X13_register 2 := ⟨(gw_in 2083 (by decide +kernel) (by decide +kernel) : Cond.methodLink RL 157 yX13_register ∈ gws), iw_X13, cw_X13_register, (show "TurningSumsModel" ≠ _ by decide), (show "TurningSumsModel" ≠ _ by decide), (by decide +kernel : (parseMethodDescriptor yX13_register.desc).map (fun d => d.parameters.length) = some 2)⟩
theorem im_X13_register : Cond.instanceMethod yX13_register ∈ gws := gw_in 2084 (by decide +kernel) (by decide +kernel)
theorem se_X13_register : Cond.selects RX13 yX13_register yX13_register ∈ gws := gw_in 2085 (by decide +kernel) (by decide +kernel)
theorem im_X10_register : Cond.instanceMethod yX10_register ∈ gws := gw_in 1239 (by decide +kernel) (by decide +kernel)
theorem se_X10_register : Cond.selects RX10 yX10_register yX10_register ∈ gws := gw_in 1240 (by decide +kernel) (by decide +kernel)
theorem cw_X10_take : Cond.code yX10_take cX10_take 4 (Option.some Jvm.ClassFile.FieldType.boolean) ∈ gws := gw_in 1265 (by decide +kernel) (by decide +kernel)
theorem lk_L_158 : LKm RL 158 m_X10_take 2 := ⟨(gw_in 1262 (by decide +kernel) (by decide +kernel) : Cond.methodLink RL 158 yX10_take ∈ gws), iw_X10, cw_X10_take, (show "TurningSums" ≠ _ by decide), (show "TurningSums" ≠ _ by decide), (by decide +kernel : (parseMethodDescriptor yX10_take.desc).map (fun d => d.parameters.length) = some 2)⟩
theorem cw_X13_take : Cond.code yX13_take cX13_take 3 (Option.some Jvm.ClassFile.FieldType.boolean) ∈ gws := gw_in 2098 (by decide +kernel) (by decide +kernel)
theorem lk_L_162 : LKm RL 162 m_X13_take 2 := ⟨(gw_in 2095 (by decide +kernel) (by decide +kernel) : Cond.methodLink RL 162 yX13_take ∈ gws), iw_X13, cw_X13_take, (show "TurningSumsModel" ≠ _ by decide), (show "TurningSumsModel" ≠ _ by decide), (by decide +kernel : (parseMethodDescriptor yX13_take.desc).map (fun d => d.parameters.length) = some 2)⟩
theorem im_X13_take : Cond.instanceMethod yX13_take ∈ gws := gw_in 2096 (by decide +kernel) (by decide +kernel)
theorem se_X13_take : Cond.selects RX13 yX13_take yX13_take ∈ gws := gw_in 2097 (by decide +kernel) (by decide +kernel)
theorem im_X10_take : Cond.instanceMethod yX10_take ∈ gws := gw_in 1263 (by decide +kernel) (by decide +kernel)
theorem se_X10_take : Cond.selects RX10 yX10_take yX10_take ∈ gws := gw_in 1264 (by decide +kernel) (by decide +kernel)
theorem cw_X10_jacobi : Cond.code yX10_jacobi cX10_jacobi 5 (Option.some Jvm.ClassFile.FieldType.boolean) ∈ gws := gw_in 1278 (by decide +kernel) (by decide +kernel)
theorem lk_L_163 : LKm RL 163 m_X10_jacobi 3 := ⟨(gw_in 1275 (by decide +kernel) (by decide +kernel) : Cond.methodLink RL 163 yX10_jacobi ∈ gws), iw_X10, cw_X10_jacobi, (show "TurningSums" ≠ _ by decide), (show "TurningSums" ≠ _ by decide), (by decide +kernel : (parseMethodDescriptor yX10_jacobi.desc).map (fun d => d.parameters.length) = some 3)⟩
theorem cw_X13_jacobi : Cond.code yX13_jacobi cX13_jacobi 4 (Option.some Jvm.ClassFile.FieldType.boolean) ∈ gws := gw_in 2106 (by decide +kernel) (by decide +kernel)
theorem lk_L_167 : LKm RL 167 m_X13_jacobi 3 := ⟨(gw_in 2103 (by decide +kernel) (by decide +kernel) : Cond.methodLink RL 167 yX13_jacobi ∈ gws), iw_X13, cw_X13_jacobi, (show "TurningSumsModel" ≠ _ by decide), (show "TurningSumsModel" ≠ _ by decide), (by decide +kernel : (parseMethodDescriptor yX13_jacobi.desc).map (fun d => d.parameters.length) = some 3)⟩
theorem im_X13_jacobi : Cond.instanceMethod yX13_jacobi ∈ gws := gw_in 2104 (by decide +kernel) (by decide +kernel)
theorem se_X13_jacobi : Cond.selects RX13 yX13_jacobi yX13_jacobi ∈ gws := gw_in 2105 (by decide +kernel) (by decide +kernel)
theorem im_X10_jacobi : Cond.instanceMethod yX10_jacobi ∈ gws := gw_in 1276 (by decide +kernel) (by decide +kernel)
theorem se_X10_jacobi : Cond.selects RX10 yX10_jacobi yX10_jacobi ∈ gws := gw_in 1277 (by decide +kernel) (by decide +kernel)
theorem cw_X10_add : Cond.code yX10_add cX10_add 4 (Option.some Jvm.ClassFile.FieldType.boolean) ∈ gws := gw_in 1282 (by decide +kernel) (by decide +kernel)
theorem lk_L_168 : LKm RL 168 m_X10_add 3 := ⟨(gw_in 1279 (by decide +kernel) (by decide +kernel) : Cond.methodLink RL 168 yX10_add ∈ gws), iw_X10, cw_X10_add, (show "TurningSums" ≠ _ by decide), (show "TurningSums" ≠ _ by decide), (by decide +kernel : (parseMethodDescriptor yX10_add.desc).map (fun d => d.parameters.length) = some 3)⟩
theorem cw_X13_add : Cond.code yX13_add cX13_add 4 (Option.some Jvm.ClassFile.FieldType.boolean) ∈ gws := gw_in 2110 (by decide +kernel) (by decide +kernel)
theorem lk_L_171 : LKm RL 171 m_X13_add 3 := ⟨(gw_in 2107 (by decide +kernel) (by decide +kernel) : Cond.methodLink RL 171 yX13_add ∈ gws), iw_X13, cw_X13_add, (show "TurningSumsModel" ≠ _ by decide), (show "TurningSumsModel" ≠ _ by decide), (by decide +kernel : (parseMethodDescriptor yX13_add.desc).map (fun d => d.parameters.length) = some 3)⟩
theorem im_X13_add : Cond.instanceMethod yX13_add ∈ gws := gw_in 2108 (by decide +kernel) (by decide +kernel)
theorem se_X13_add : Cond.selects RX13 yX13_add yX13_add ∈ gws := gw_in 2109 (by decide +kernel) (by decide +kernel)
theorem im_X10_add : Cond.instanceMethod yX10_add ∈ gws := gw_in 1280 (by decide +kernel) (by decide +kernel)
theorem se_X10_add : Cond.selects RX10 yX10_add yX10_add ∈ gws := gw_in 1281 (by decide +kernel) (by decide +kernel)
theorem cw_X10_times : Cond.code yX10_times cX10_times 4 (Option.some Jvm.ClassFile.FieldType.boolean) ∈ gws := gw_in 1287 (by decide +kernel) (by decide +kernel)
theorem lk_L_172 : LKm RL 172 m_X10_times 2 := ⟨(gw_in 1284 (by decide +kernel) (by decide +kernel) : Cond.methodLink RL 172 yX10_times ∈ gws), iw_X10, cw_X10_times, (show "TurningSums" ≠ _ by decide), (show "TurningSums" ≠ _ by decide), (by decide +kernel : (parseMethodDescriptor yX10_times.desc).map (fun d => d.parameters.length) = some 2)⟩
theorem cw_X13_times : Cond.code yX13_times cX13_times 3 (Option.some Jvm.ClassFile.FieldType.boolean) ∈ gws := gw_in 2118 (by decide +kernel) (by decide +kernel)
theorem lk_L_175 : LKm RL 175 m_X13_times 2 := ⟨(gw_in 2115 (by decide +kernel) (by decide +kernel) : Cond.methodLink RL 175 yX13_times ∈ gws), iw_X13, cw_X13_times, (show "TurningSumsModel" ≠ _ by decide), (show "TurningSumsModel" ≠ _ by decide), (by decide +kernel : (parseMethodDescriptor yX13_times.desc).map (fun d => d.parameters.length) = some 2)⟩
theorem im_X13_times : Cond.instanceMethod yX13_times ∈ gws := gw_in 2116 (by decide +kernel) (by decide +kernel)
theorem se_X13_times : Cond.selects RX13 yX13_times yX13_times ∈ gws := gw_in 2117 (by decide +kernel) (by decide +kernel)
theorem im_X10_times : Cond.instanceMethod yX10_times ∈ gws := gw_in 1285 (by decide +kernel) (by decide +kernel)
theorem se_X10_times : Cond.selects RX10 yX10_times yX10_times ∈ gws := gw_in 1286 (by decide +kernel) (by decide +kernel)
theorem cw_X10_turn : Cond.code yX10_turn cX10_turn 4 (Option.some Jvm.ClassFile.FieldType.boolean) ∈ gws := gw_in 1291 (by decide +kernel) (by decide +kernel)
theorem lk_L_176 : LKm RL 176 m_X10_turn 2 := ⟨(gw_in 1288 (by decide +kernel) (by decide +kernel) : Cond.methodLink RL 176 yX10_turn ∈ gws), iw_X10, cw_X10_turn, (show "TurningSums" ≠ _ by decide), (show "TurningSums" ≠ _ by decide), (by decide +kernel : (parseMethodDescriptor yX10_turn.desc).map (fun d => d.parameters.length) = some 2)⟩
theorem cw_X13_turn : Cond.code yX13_turn cX13_turn 3 (Option.some Jvm.ClassFile.FieldType.boolean) ∈ gws := gw_in 2122 (by decide +kernel) (by decide +kernel)
theorem lk_L_179 : LKm RL 179 m_X13_turn 2 := ⟨(gw_in 2119 (by decide +kernel) (by decide +kernel) : Cond.methodLink RL 179 yX13_turn ∈ gws), iw_X13, cw_X13_turn, (show "TurningSumsModel" ≠ _ by decide), (show "TurningSumsModel" ≠ _ by decide), (by decide +kernel : (parseMethodDescriptor yX13_turn.desc).map (fun d => d.parameters.length) = some 2)⟩
theorem im_X13_turn : Cond.instanceMethod yX13_turn ∈ gws := gw_in 2120 (by decide +kernel) (by decide +kernel)
theorem se_X13_turn : Cond.selects RX13 yX13_turn yX13_turn ∈ gws := gw_in 2121 (by decide +kernel) (by decide +kernel)
theorem im_X10_turn : Cond.instanceMethod yX10_turn ∈ gws := gw_in 1289 (by decide +kernel) (by decide +kernel)
theorem se_X10_turn : Cond.selects RX10 yX10_turn yX10_turn ∈ gws := gw_in 1290 (by decide +kernel) (by decide +kernel)
theorem cw_X10_size : Cond.code yX10_size cX10_size 3 (Option.some Jvm.ClassFile.FieldType.long) ∈ gws := gw_in 1295 (by decide +kernel) (by decide +kernel)
theorem lk_L_180 : LKm RL 180 m_X10_size 1 := ⟨(gw_in 1292 (by decide +kernel) (by decide +kernel) : Cond.methodLink RL 180 yX10_size ∈ gws), iw_X10, cw_X10_size, (show "TurningSums" ≠ _ by decide), (show "TurningSums" ≠ _ by decide), (by decide +kernel : (parseMethodDescriptor yX10_size.desc).map (fun d => d.parameters.length) = some 1)⟩
theorem cw_X13_size : Cond.code yX13_size cX13_size 4 (Option.some Jvm.ClassFile.FieldType.long) ∈ gws := gw_in 2126 (by decide +kernel) (by decide +kernel)
theorem lk_L_184 : LKm RL 184 m_X13_size 1 := ⟨(gw_in 2123 (by decide +kernel) (by decide +kernel) : Cond.methodLink RL 184 yX13_size ∈ gws), iw_X13, cw_X13_size, (show "TurningSumsModel" ≠ _ by decide), (show "TurningSumsModel" ≠ _ by decide), (by decide +kernel : (parseMethodDescriptor yX13_size.desc).map (fun d => d.parameters.length) = some 1)⟩
theorem im_X13_size : Cond.instanceMethod yX13_size ∈ gws := gw_in 2124 (by decide +kernel) (by decide +kernel)
theorem se_X13_size : Cond.selects RX13 yX13_size yX13_size ∈ gws := gw_in 2125 (by decide +kernel) (by decide +kernel)
theorem im_X10_size : Cond.instanceMethod yX10_size ∈ gws := gw_in 1293 (by decide +kernel) (by decide +kernel)
theorem se_X10_size : Cond.selects RX10 yX10_size yX10_size ∈ gws := gw_in 1294 (by decide +kernel) (by decide +kernel)
theorem cw_X10_undo : Cond.code yX10_undo cX10_undo 1 (Option.some Jvm.ClassFile.FieldType.boolean) ∈ gws := gw_in 1305 (by decide +kernel) (by decide +kernel)
theorem lk_L_185 : LKm RL 185 m_X10_undo 0 := ⟨(gw_in 1302 (by decide +kernel) (by decide +kernel) : Cond.methodLink RL 185 yX10_undo ∈ gws), iw_X10, cw_X10_undo, (show "TurningSums" ≠ _ by decide), (show "TurningSums" ≠ _ by decide), (by decide +kernel : (parseMethodDescriptor yX10_undo.desc).map (fun d => d.parameters.length) = some 0)⟩
theorem cw_X13_undo : Cond.code yX13_undo cX13_undo 1 (Option.some Jvm.ClassFile.FieldType.boolean) ∈ gws := gw_in 2131 (by decide +kernel) (by decide +kernel)
theorem lk_L_189 : LKm RL 189 m_X13_undo 0 := ⟨(gw_in 2128 (by decide +kernel) (by decide +kernel) : Cond.methodLink RL 189 yX13_undo ∈ gws), iw_X13, cw_X13_undo, (show "TurningSumsModel" ≠ _ by decide), (show "TurningSumsModel" ≠ _ by decide), (by decide +kernel : (parseMethodDescriptor yX13_undo.desc).map (fun d => d.parameters.length) = some 0)⟩
theorem im_X13_undo : Cond.instanceMethod yX13_undo ∈ gws := gw_in 2129 (by decide +kernel) (by decide +kernel)
theorem se_X13_undo : Cond.selects RX13 yX13_undo yX13_undo ∈ gws := gw_in 2130 (by decide +kernel) (by decide +kernel)
theorem im_X10_undo : Cond.instanceMethod yX10_undo ∈ gws := gw_in 1303 (by decide +kernel) (by decide +kernel)
theorem se_X10_undo : Cond.selects RX10 yX10_undo yX10_undo ∈ gws := gw_in 1304 (by decide +kernel) (by decide +kernel)
theorem cw_X10_redo : Cond.code yX10_redo cX10_redo 1 (Option.some Jvm.ClassFile.FieldType.boolean) ∈ gws := gw_in 1313 (by decide +kernel) (by decide +kernel)
theorem lk_L_190 : LKm RL 190 m_X10_redo 0 := ⟨(gw_in 1310 (by decide +kernel) (by decide +kernel) : Cond.methodLink RL 190 yX10_redo ∈ gws), iw_X10, cw_X10_redo, (show "TurningSums" ≠ _ by decide), (show "TurningSums" ≠ _ by decide), (by decide +kernel : (parseMethodDescriptor yX10_redo.desc).map (fun d => d.parameters.length) = some 0)⟩
theorem cw_X13_redo : Cond.code yX13_redo cX13_redo 1 (Option.some Jvm.ClassFile.FieldType.boolean) ∈ gws := gw_in 2139 (by decide +kernel) (by decide +kernel)
theorem lk_L_193 : LKm RL 193 m_X13_redo 0 := ⟨(gw_in 2136 (by decide +kernel) (by decide +kernel) : Cond.methodLink RL 193 yX13_redo ∈ gws), iw_X13, cw_X13_redo, (show "TurningSumsModel" ≠ _ by decide), (show "TurningSumsModel" ≠ _ by decide), (by decide +kernel : (parseMethodDescriptor yX13_redo.desc).map (fun d => d.parameters.length) = some 0)⟩
theorem im_X13_redo : Cond.instanceMethod yX13_redo ∈ gws := gw_in 2137 (by decide +kernel) (by decide +kernel)
theorem se_X13_redo : Cond.selects RX13 yX13_redo yX13_redo ∈ gws := gw_in 2138 (by decide +kernel) (by decide +kernel)
theorem im_X10_redo : Cond.instanceMethod yX10_redo ∈ gws := gw_in 1311 (by decide +kernel) (by decide +kernel)
theorem se_X10_redo : Cond.selects RX10 yX10_redo yX10_redo ∈ gws := gw_in 1312 (by decide +kernel) (by decide +kernel)
theorem cw_X10_image : Cond.code yX10_image cX10_image 2 (Option.some Jvm.ClassFile.FieldType.int) ∈ gws := gw_in 1321 (by decide +kernel) (by decide +kernel)
theorem lk_L_194 : LKm RL 194 m_X10_image 0 := ⟨(gw_in 1318 (by decide +kernel) (by decide +kernel) : Cond.methodLink RL 194 yX10_image ∈ gws), iw_X10, cw_X10_image, (show "TurningSums" ≠ _ by decide), (show "TurningSums" ≠ _ by decide), (by decide +kernel : (parseMethodDescriptor yX10_image.desc).map (fun d => d.parameters.length) = some 0)⟩
theorem cw_X13_image : Cond.code yX13_image cX13_image 1 (Option.some Jvm.ClassFile.FieldType.int) ∈ gws := gw_in 2143 (by decide +kernel) (by decide +kernel)
theorem lk_L_197 : LKm RL 197 m_X13_image 0 := ⟨(gw_in 2140 (by decide +kernel) (by decide +kernel) : Cond.methodLink RL 197 yX13_image ∈ gws), iw_X13, cw_X13_image, (show "TurningSumsModel" ≠ _ by decide), (show "TurningSumsModel" ≠ _ by decide), (by decide +kernel : (parseMethodDescriptor yX13_image.desc).map (fun d => d.parameters.length) = some 0)⟩
theorem im_X13_image : Cond.instanceMethod yX13_image ∈ gws := gw_in 2141 (by decide +kernel) (by decide +kernel)
theorem se_X13_image : Cond.selects RX13 yX13_image yX13_image ∈ gws := gw_in 2142 (by decide +kernel) (by decide +kernel)
theorem im_X10_image : Cond.instanceMethod yX10_image ∈ gws := gw_in 1319 (by decide +kernel) (by decide +kernel)
theorem se_X10_image : Cond.selects RX10 yX10_image yX10_image ∈ gws := gw_in 1320 (by decide +kernel) (by decide +kernel)
theorem cw_X10_restore : Cond.code yX10_restore cX10_restore 2 (Option.some Jvm.ClassFile.FieldType.boolean) ∈ gws := gw_in 1333 (by decide +kernel) (by decide +kernel)
theorem lk_L_198 : LKm RL 198 m_X10_restore 1 := ⟨(gw_in 1330 (by decide +kernel) (by decide +kernel) : Cond.methodLink RL 198 yX10_restore ∈ gws), iw_X10, cw_X10_restore, (show "TurningSums" ≠ _ by decide), (show "TurningSums" ≠ _ by decide), (by decide +kernel : (parseMethodDescriptor yX10_restore.desc).map (fun d => d.parameters.length) = some 1)⟩
theorem cw_X13_restore : Cond.code yX13_restore cX13_restore 2 (Option.some Jvm.ClassFile.FieldType.boolean) ∈ gws := gw_in 2147 (by decide +kernel) (by decide +kernel)
theorem lk_L_201 : LKm RL 201 m_X13_restore 1 := ⟨(gw_in 2144 (by decide +kernel) (by decide +kernel) : Cond.methodLink RL 201 yX13_restore ∈ gws), iw_X13, cw_X13_restore, (show "TurningSumsModel" ≠ _ by decide), (show "TurningSumsModel" ≠ _ by decide), (by decide +kernel : (parseMethodDescriptor yX13_restore.desc).map (fun d => d.parameters.length) = some 1)⟩
theorem im_X13_restore : Cond.instanceMethod yX13_restore ∈ gws := gw_in 2145 (by decide +kernel) (by decide +kernel)
theorem se_X13_restore : Cond.selects RX13 yX13_restore yX13_restore ∈ gws := gw_in 2146 (by decide +kernel) (by decide +kernel)
theorem im_X10_restore : Cond.instanceMethod yX10_restore ∈ gws := gw_in 1331 (by decide +kernel) (by decide +kernel)
theorem se_X10_restore : Cond.selects RX10 yX10_restore yX10_restore ∈ gws := gw_in 1332 (by decide +kernel) (by decide +kernel)
theorem cw_X13_led : Cond.code yX13_led cX13_led 5 (Option.some Jvm.ClassFile.FieldType.int) ∈ gws := gw_in 2151 (by decide +kernel) (by decide +kernel)
theorem lk_L_207 : LKm RL 207 m_X13_led 2 := ⟨(gw_in 2148 (by decide +kernel) (by decide +kernel) : Cond.methodLink RL 207 yX13_led ∈ gws), iw_X13, cw_X13_led, (show "TurningSumsModel" ≠ _ by decide), (show "TurningSumsModel" ≠ _ by decide), (by decide +kernel : (parseMethodDescriptor yX13_led.desc).map (fun d => d.parameters.length) = some 2)⟩
theorem cw_X13_thrown : Cond.code yX13_thrown cX13_thrown 1 (Option.some Jvm.ClassFile.FieldType.int) ∈ gws := gw_in 1539 (by decide +kernel) (by decide +kernel)
theorem lk_L_208 : LKm RL 208 m_X13_thrown 0 := ⟨(gw_in 1536 (by decide +kernel) (by decide +kernel) : Cond.methodLink RL 208 yX13_thrown ∈ gws), iw_X13, cw_X13_thrown, (show "TurningSumsModel" ≠ _ by decide), (show "TurningSumsModel" ≠ _ by decide), (by decide +kernel : (parseMethodDescriptor yX13_thrown.desc).map (fun d => d.parameters.length) = some 0)⟩
theorem im_X13_thrown : Cond.instanceMethod yX13_thrown ∈ gws := gw_in 1537 (by decide +kernel) (by decide +kernel)
theorem se_X13_thrown : Cond.selects RX13 yX13_thrown yX13_thrown ∈ gws := gw_in 1538 (by decide +kernel) (by decide +kernel)
theorem im_X13_led : Cond.instanceMethod yX13_led ∈ gws := gw_in 2149 (by decide +kernel) (by decide +kernel)
theorem se_X13_led : Cond.selects RX13 yX13_led yX13_led ∈ gws := gw_in 2150 (by decide +kernel) (by decide +kernel)
theorem cw_X10_told : Cond.code yX10_told cX10_told 2 (Option.some Jvm.ClassFile.FieldType.int) ∈ gws := gw_in 1341 (by decide +kernel) (by decide +kernel)
theorem lk_L_211 : LKm RL 211 m_X10_told 1 := ⟨(gw_in 1338 (by decide +kernel) (by decide +kernel) : Cond.methodLink RL 211 yX10_told ∈ gws), iw_X10, cw_X10_told, (show "TurningSums" ≠ _ by decide), (show "TurningSums" ≠ _ by decide), (by decide +kernel : (parseMethodDescriptor yX10_told.desc).map (fun d => d.parameters.length) = some 1)⟩
theorem cw_X13_told : Cond.code yX13_told cX13_told 2 (Option.some Jvm.ClassFile.FieldType.int) ∈ gws := gw_in 2155 (by decide +kernel) (by decide +kernel)
theorem lk_L_214 : LKm RL 214 m_X13_told 1 := ⟨(gw_in 2152 (by decide +kernel) (by decide +kernel) : Cond.methodLink RL 214 yX13_told ∈ gws), iw_X13, cw_X13_told, (show "TurningSumsModel" ≠ _ by decide), (show "TurningSumsModel" ≠ _ by decide), (by decide +kernel : (parseMethodDescriptor yX13_told.desc).map (fun d => d.parameters.length) = some 1)⟩
theorem im_X13_told : Cond.instanceMethod yX13_told ∈ gws := gw_in 2153 (by decide +kernel) (by decide +kernel)
theorem se_X13_told : Cond.selects RX13 yX13_told yX13_told ∈ gws := gw_in 2154 (by decide +kernel) (by decide +kernel)
theorem im_X10_told : Cond.instanceMethod yX10_told ∈ gws := gw_in 1339 (by decide +kernel) (by decide +kernel)
theorem se_X10_told : Cond.selects RX10 yX10_told yX10_told ∈ gws := gw_in 1340 (by decide +kernel) (by decide +kernel)
theorem cw_X10_trouble : Cond.code yX10_trouble cX10_trouble 1 (Option.some Jvm.ClassFile.FieldType.int) ∈ gws := gw_in 1358 (by decide +kernel) (by decide +kernel)
theorem lk_L_215 : LKm RL 215 m_X10_trouble 0 := ⟨(gw_in 1355 (by decide +kernel) (by decide +kernel) : Cond.methodLink RL 215 yX10_trouble ∈ gws), iw_X10, cw_X10_trouble, (show "TurningSums" ≠ _ by decide), (show "TurningSums" ≠ _ by decide), (by decide +kernel : (parseMethodDescriptor yX10_trouble.desc).map (fun d => d.parameters.length) = some 0)⟩
theorem cw_X13_trouble : Cond.code yX13_trouble cX13_trouble 1 (Option.some Jvm.ClassFile.FieldType.int) ∈ gws := gw_in 2159 (by decide +kernel) (by decide +kernel)
theorem lk_L_218 : LKm RL 218 m_X13_trouble 0 := ⟨(gw_in 2156 (by decide +kernel) (by decide +kernel) : Cond.methodLink RL 218 yX13_trouble ∈ gws), iw_X13, cw_X13_trouble, (show "TurningSumsModel" ≠ _ by decide), (show "TurningSumsModel" ≠ _ by decide), (by decide +kernel : (parseMethodDescriptor yX13_trouble.desc).map (fun d => d.parameters.length) = some 0)⟩
theorem im_X13_trouble : Cond.instanceMethod yX13_trouble ∈ gws := gw_in 2157 (by decide +kernel) (by decide +kernel)
theorem se_X13_trouble : Cond.selects RX13 yX13_trouble yX13_trouble ∈ gws := gw_in 2158 (by decide +kernel) (by decide +kernel)
theorem im_X10_trouble : Cond.instanceMethod yX10_trouble ∈ gws := gw_in 1356 (by decide +kernel) (by decide +kernel)
theorem se_X10_trouble : Cond.selects RX10 yX10_trouble yX10_trouble ∈ gws := gw_in 1357 (by decide +kernel) (by decide +kernel)
theorem im_X13_init : Cond.instanceMethod yX13_init ∈ gws := gw_in 1439 (by decide +kernel) (by decide +kernel)
theorem im_X10_init : Cond.instanceMethod yX10_init ∈ gws := gw_in 138 (by decide +kernel) (by decide +kernel)
def LedOk (cx : CX) : Prop := ∀ (ls : List (Nat × LV)) (o : Option Nat) (a b : Int32) (q : Option Nat) (G : Int32 → Mo Int32), (∀ r, Sn cx m_L_law eI (1824 + 3) ls [vI r] (G r)) → Sn cx m_L_law eI 1824 ls [vA q, vI b, vI a, vA o] (mBd (f_L_led o a b q) G)
def f_L_law_b23 (xs : Nat → Int32) (L : Nat) (x1 : (Option Nat)) (x2 : (Option Nat)) (x3 : (Option Nat)) (k23 : Int32 → Mo Int32) (x4 : Int32) : Mo Int32 :=
  (if x4 > (((Int32.ofNat L)) - (6 : Int32)) then mRt (1 : Int32) else mBd (mLdX xs L x4) (fun r274 => (if (r274 &&& (63 : Int32)) = (0 : Int32) then mBd (mLdX xs L (x4 + (1 : Int32))) (fun r275 => mBd (mLdX xs L (x4 + (2 : Int32))) (fun r276 => mBd (mLdX xs L (x4 + (3 : Int32))) (fun r277 => mBd (mLdX xs L (x4 + (4 : Int32))) (fun r278 => mBd (mLdX xs L (x4 + (5 : Int32))) (fun r279 => mBd (mCk 8 x1 (f_X10_feed x1 r275 r276 r277 r278 r279)) (fun r280 => mBd (mLdX xs L (x4 + (1 : Int32))) (fun r281 => mBd (mLdX xs L (x4 + (2 : Int32))) (fun r282 => mBd (mLdX xs L (x4 + (3 : Int32))) (fun r283 => mBd (mLdX xs L (x4 + (4 : Int32))) (fun r284 => mBd (mLdX xs L (x4 + (5 : Int32))) (fun r285 => mBd (mCk 11 x2 (f_X13_feed x2 r281 r282 r283 r284 r285)) (fun r286 => (if r280 = r286 then k23 (x4 + 6) else mRt (0 : Int32)))))))))))))) else (if (r274 &&& (63 : Int32)) = (1 : Int32) then mBd (mLdX xs L (x4 + (1 : Int32))) (fun r287 => mBd (mCk 8 x1 (f_X10_book x1 r287)) (fun r288 => mBd (mLdX xs L (x4 + (1 : Int32))) (fun r289 => mBd (mCk 11 x2 (f_X13_book x2 r289)) (fun r290 => (if r288 = r290 then k23 (x4 + 6) else mRt (0 : Int32)))))) else (if (r274 &&& (63 : Int32)) = (2 : Int32) then mBd (mCk 8 x1 (f_X10_fault x1)) (fun r291 => mBd (mCk 11 x2 (f_X13_fault x2)) (fun r292 => (if r291 = r292 then k23 (x4 + 6) else mRt (0 : Int32)))) else (if (r274 &&& (63 : Int32)) = (3 : Int32) then mBd (mCk 8 x1 (f_X10_where x1)) (fun r293 => mBd (mCk 11 x2 (f_X13_where x2)) (fun r294 => (if r293 = r294 then k23 (x4 + 6) else mRt (0 : Int32)))) else (if (r274 &&& (63 : Int32)) = (4 : Int32) then mBd (mLdX xs L (x4 + (1 : Int32))) (fun r295 => mBd (mLdX xs L (x4 + (2 : Int32))) (fun r296 => mBd (mCk 8 x1 (f_X10_field x1 r295 r296)) (fun r297 => mBd (mLdX xs L (x4 + (1 : Int32))) (fun r298 => mBd (mLdX xs L (x4 + (2 : Int32))) (fun r299 => mBd (mCk 11 x2 (f_X13_field x2 r298 r299)) (fun r300 => (if r297 = r300 then k23 (x4 + 6) else mRt (0 : Int32)))))))) else (if (r274 &&& (63 : Int32)) = (5 : Int32) then mBd (mLdX xs L (x4 + (1 : Int32))) (fun r301 => mBd (mLdX xs L (x4 + (2 : Int32))) (fun r302 => mBd (mCk 8 x1 (f_X10_log x1 r301 r302)) (fun r303 => mBd (mLdX xs L (x4 + (1 : Int32))) (fun r304 => mBd (mLdX xs L (x4 + (2 : Int32))) (fun r305 => mBd (mCk 11 x2 (f_X13_log x2 r304 r305)) (fun r306 => (if r303 = r306 then k23 (x4 + 6) else mRt (0 : Int32)))))))) else (if (r274 &&& (63 : Int32)) = (6 : Int32) then mBd (mLdX xs L (x4 + (1 : Int32))) (fun r307 => mBd (mLdX xs L (x4 + (2 : Int32))) (fun r308 => mBd (mLdX xs L (x4 + (3 : Int32))) (fun r309 => mBd (mCk 8 x1 (f_X10_character x1 r307 r308 r309)) (fun r310 => mBd (mLdX xs L (x4 + (1 : Int32))) (fun r311 => mBd (mLdX xs L (x4 + (2 : Int32))) (fun r312 => mBd (mLdX xs L (x4 + (3 : Int32))) (fun r313 => mBd (mCk 11 x2 (f_X13_character x2 r311 r312 r313)) (fun r314 => (if r310 = r314 then k23 (x4 + 6) else mRt (0 : Int32)))))))))) else (if (r274 &&& (63 : Int32)) = (7 : Int32) then mBd (mLdX xs L (x4 + (1 : Int32))) (fun r315 => mBd (mLdX xs L (x4 + (2 : Int32))) (fun r316 => mBd (mLdX xs L (x4 + (3 : Int32))) (fun r317 => mBd (mLdX xs L (x4 + (4 : Int32))) (fun r318 => mBd (mCk 8 x1 (f_X10_sum x1 r315 r316 r317 r318)) (fun r319 => mBd (mLdX xs L (x4 + (1 : Int32))) (fun r320 => mBd (mLdX xs L (x4 + (2 : Int32))) (fun r321 => mBd (mLdX xs L (x4 + (3 : Int32))) (fun r322 => mBd (mLdX xs L (x4 + (4 : Int32))) (fun r323 => mBd (mCk 11 x2 (f_X13_sum x2 r320 r321 r322 r323)) (fun r324 => (if r319 = r324 then k23 (x4 + 6) else mRt (0 : Int32)))))))))))) else (if (r274 &&& (63 : Int32)) = (8 : Int32) then mBd (mLdX xs L (x4 + (1 : Int32))) (fun r325 => mBd (mLdX xs L (x4 + (2 : Int32))) (fun r326 => mBd (mLdX xs L (x4 + (3 : Int32))) (fun r327 => mBd (mCk 8 x1 (f_X10_norm x1 r325 r326 r327)) (fun r328 => mBd (mLdX xs L (x4 + (1 : Int32))) (fun r329 => mBd (mLdX xs L (x4 + (2 : Int32))) (fun r330 => mBd (mLdX xs L (x4 + (3 : Int32))) (fun r331 => mBd (mCk 11 x2 (f_X13_norm x2 r329 r330 r331)) (fun r332 => (if r328 = r332 then k23 (x4 + 6) else mRt (0 : Int32)))))))))) else (if (r274 &&& (63 : Int32)) = (9 : Int32) then mBd (mLdX xs L (x4 + (1 : Int32))) (fun r333 => mBd (mLdX xs L (x4 + (2 : Int32))) (fun r334 => mBd (mLdX xs L (x4 + (3 : Int32))) (fun r335 => mBd (mLdX xs L (x4 + (4 : Int32))) (fun r336 => mBd (mCk 8 x1 (f_X10_relation x1 r333 r334 r335 r336)) (fun r337 => mBd (mLdX xs L (x4 + (1 : Int32))) (fun r338 => mBd (mLdX xs L (x4 + (2 : Int32))) (fun r339 => mBd (mLdX xs L (x4 + (3 : Int32))) (fun r340 => mBd (mLdX xs L (x4 + (4 : Int32))) (fun r341 => mBd (mCk 11 x2 (f_X13_relation x2 r338 r339 r340 r341)) (fun r342 => (if r337 = r342 then k23 (x4 + 6) else mRt (0 : Int32)))))))))))) else (if (r274 &&& (63 : Int32)) = (10 : Int32) then mBd (mLdX xs L (x4 + (1 : Int32))) (fun r343 => mBd (mLdX xs L (x4 + (2 : Int32))) (fun r344 => mBd (mLdX xs L (x4 + (3 : Int32))) (fun r345 => mBd (mLdX xs L (x4 + (4 : Int32))) (fun r346 => mBd (mCk 8 x1 (f_X10_part x1 r343 r344 r345 r346)) (fun r347 => mBd (mLdX xs L (x4 + (1 : Int32))) (fun r348 => mBd (mLdX xs L (x4 + (2 : Int32))) (fun r349 => mBd (mLdX xs L (x4 + (3 : Int32))) (fun r350 => mBd (mLdX xs L (x4 + (4 : Int32))) (fun r351 => mBd (mCk 11 x2 (f_X13_part x2 r348 r349 r350 r351)) (fun r352 => (if r347 = r352 then k23 (x4 + 6) else mRt (0 : Int32)))))))))))) else (if (r274 &&& (63 : Int32)) = (11 : Int32) then mBd (mLdX xs L (x4 + (1 : Int32))) (fun r353 => mBd (mLdX xs L (x4 + (2 : Int32))) (fun r354 => mBd (mLdX xs L (x4 + (3 : Int32))) (fun r355 => mBd (mLdX xs L (x4 + (4 : Int32))) (fun r356 => mBd (mCk 8 x1 (f_X10_law x1 r353 r354 r355 r356)) (fun r357 => mBd (mLdX xs L (x4 + (1 : Int32))) (fun r358 => mBd (mLdX xs L (x4 + (2 : Int32))) (fun r359 => mBd (mLdX xs L (x4 + (3 : Int32))) (fun r360 => mBd (mLdX xs L (x4 + (4 : Int32))) (fun r361 => mBd (mCk 11 x2 (f_X13_law x2 r358 r359 r360 r361)) (fun r362 => (if r357 = r362 then k23 (x4 + 6) else mRt (0 : Int32)))))))))))) else (if (r274 &&& (63 : Int32)) = (12 : Int32) then mBd (mLdX xs L (x4 + (1 : Int32))) (fun r363 => mBd (mLdX xs L (x4 + (2 : Int32))) (fun r364 => mBd (mLdX xs L (x4 + (3 : Int32))) (fun r365 => mBd (mCk 8 x1 (f_X10_parts x1 r363 r364 r365)) (fun r366 => mBd (mLdX xs L (x4 + (1 : Int32))) (fun r367 => mBd (mLdX xs L (x4 + (2 : Int32))) (fun r368 => mBd (mLdX xs L (x4 + (3 : Int32))) (fun r369 => mBd (mCk 11 x2 (f_X13_parts x2 r367 r368 r369)) (fun r370 => (if r366 = r370 then k23 (x4 + 6) else mRt (0 : Int32)))))))))) else (if (r274 &&& (63 : Int32)) = (13 : Int32) then mBd (mLdX xs L (x4 + (1 : Int32))) (fun r371 => mBd (mLdX xs L (x4 + (2 : Int32))) (fun r372 => mBd (mCk 8 x1 (f_X10_let x1 r371 r372)) (fun r373 => mBd (mLdX xs L (x4 + (1 : Int32))) (fun r374 => mBd (mLdX xs L (x4 + (2 : Int32))) (fun r375 => mBd (mCk 11 x2 (f_X13_let x2 r374 r375)) (fun r376 => (if r373 = r376 then k23 (x4 + 6) else mRt (0 : Int32)))))))) else (if (r274 &&& (63 : Int32)) = (14 : Int32) then mBd (mLdX xs L (x4 + (1 : Int32))) (fun r377 => mBd (mCk 8 x1 (f_X10_letField x1 r377)) (fun r378 => mBd (mLdX xs L (x4 + (1 : Int32))) (fun r379 => mBd (mCk 11 x2 (f_X13_letField x2 r379)) (fun r380 => (if r378 = r380 then k23 (x4 + 6) else mRt (0 : Int32)))))) else (if (r274 &&& (63 : Int32)) = (15 : Int32) then mBd (mLdX xs L (x4 + (1 : Int32))) (fun r381 => mBd (mLdX xs L (x4 + (2 : Int32))) (fun r382 => mBd (mCk 8 x1 (f_X10_letPart x1 r381 r382)) (fun r383 => mBd (mLdX xs L (x4 + (1 : Int32))) (fun r384 => mBd (mLdX xs L (x4 + (2 : Int32))) (fun r385 => mBd (mCk 11 x2 (f_X13_letPart x2 r384 r385)) (fun r386 => (if r383 = r386 then k23 (x4 + 6) else mRt (0 : Int32)))))))) else (if (r274 &&& (63 : Int32)) = (16 : Int32) then mBd (mLdX xs L (x4 + (1 : Int32))) (fun r387 => mBd (mCk 8 x1 (f_X10_whole x1 r387)) (fun r388 => mBd (mLdX xs L (x4 + (1 : Int32))) (fun r389 => mBd (mCk 11 x2 (f_X13_whole x2 r389)) (fun r390 => (if r388 = r390 then k23 (x4 + 6) else mRt (0 : Int32)))))) else (if (r274 &&& (63 : Int32)) = (17 : Int32) then mBd (mLdX xs L (x4 + (1 : Int32))) (fun r391 => mBd (mCk 8 x1 (f_X10_count x1 r391)) (fun r392 => mBd (mLdX xs L (x4 + (1 : Int32))) (fun r393 => mBd (mCk 11 x2 (f_X13_count x2 r393)) (fun r394 => (if r392 = r394 then k23 (x4 + 6) else mRt (0 : Int32)))))) else (if (r274 &&& (63 : Int32)) = (18 : Int32) then mBd (mLdX xs L (x4 + (1 : Int32))) (fun r395 => mBd (mLdX xs L (x4 + (2 : Int32))) (fun r396 => mBd (mCk 8 x1 (f_X10_countOf x1 r395 r396)) (fun r397 => mBd (mLdX xs L (x4 + (1 : Int32))) (fun r398 => mBd (mLdX xs L (x4 + (2 : Int32))) (fun r399 => mBd (mCk 11 x2 (f_X13_countOf x2 r398 r399)) (fun r400 => (if r397 = r400 then k23 (x4 + 6) else mRt (0 : Int32)))))))) else (if (r274 &&& (63 : Int32)) = (19 : Int32) then mBd (mLdX xs L (x4 + (1 : Int32))) (fun r401 => mBd (mLdX xs L (x4 + (2 : Int32))) (fun r402 => mBd (mCk 8 x1 (f_X10_curve x1 r401 r402)) (fun r403 => mBd (mLdX xs L (x4 + (1 : Int32))) (fun r404 => mBd (mLdX xs L (x4 + (2 : Int32))) (fun r405 => mBd (mCk 11 x2 (f_X13_curve x2 r404 r405)) (fun r406 => (if r403 = r406 then k23 (x4 + 6) else mRt (0 : Int32)))))))) else (if (r274 &&& (63 : Int32)) = (20 : Int32) then mBd (mLdX xs L (x4 + (1 : Int32))) (fun r407 => mBd (mLdX xs L (x4 + (2 : Int32))) (fun r408 => mBd (mCk 8 x1 (f_X10_sign x1 r407 r408)) (fun r409 => mBd (mLdX xs L (x4 + (1 : Int32))) (fun r410 => mBd (mLdX xs L (x4 + (2 : Int32))) (fun r411 => mBd (mCk 11 x2 (f_X13_sign x2 r410 r411)) (fun r412 => (if r409 = r412 then k23 (x4 + 6) else mRt (0 : Int32)))))))) else (if (r274 &&& (63 : Int32)) = (21 : Int32) then mBd (mLdX xs L (x4 + (1 : Int32))) (fun r413 => mBd (mLdX xs L (x4 + (2 : Int32))) (fun r414 => mBd (mCk 8 x1 (f_X10_both x1 r413 r414)) (fun r415 => mBd (mLdX xs L (x4 + (1 : Int32))) (fun r416 => mBd (mLdX xs L (x4 + (2 : Int32))) (fun r417 => mBd (mCk 11 x2 (f_X13_both x2 r416 r417)) (fun r418 => (if r415 = r418 then k23 (x4 + 6) else mRt (0 : Int32)))))))) else (if (r274 &&& (63 : Int32)) = (22 : Int32) then mBd (mLdX xs L (x4 + (1 : Int32))) (fun r419 => mBd (mLdX xs L (x4 + (2 : Int32))) (fun r420 => mBd (mCk 8 x1 (f_X10_form x1 r419 r420)) (fun r421 => mBd (mLdX xs L (x4 + (1 : Int32))) (fun r422 => mBd (mLdX xs L (x4 + (2 : Int32))) (fun r423 => mBd (mCk 11 x2 (f_X13_form x2 r422 r423)) (fun r424 => (if r421 = r424 then k23 (x4 + 6) else mRt (0 : Int32)))))))) else (if (r274 &&& (63 : Int32)) = (23 : Int32) then mBd (mLdX xs L (x4 + (1 : Int32))) (fun r425 => mBd (mLdX xs L (x4 + (2 : Int32))) (fun r426 => mBd (mLdX xs L (x4 + (3 : Int32))) (fun r427 => mBd (mCk 8 x1 (f_X10_power x1 r425 r426 r427)) (fun r428 => mBd (mLdX xs L (x4 + (1 : Int32))) (fun r429 => mBd (mLdX xs L (x4 + (2 : Int32))) (fun r430 => mBd (mLdX xs L (x4 + (3 : Int32))) (fun r431 => mBd (mCk 11 x2 (f_X13_power x2 r429 r430 r431)) (fun r432 => (if r428 = r432 then k23 (x4 + 6) else mRt (0 : Int32)))))))))) else (if (r274 &&& (63 : Int32)) = (24 : Int32) then mBd (mLdX xs L (x4 + (1 : Int32))) (fun r433 => mBd (mCk 8 x1 (f_X10_classSums x1 r433)) (fun r434 => mBd (mLdX xs L (x4 + (1 : Int32))) (fun r435 => mBd (mCk 11 x2 (f_X13_classSums x2 r435)) (fun r436 => (if r434 = r436 then k23 (x4 + 6) else mRt (0 : Int32)))))) else (if (r274 &&& (63 : Int32)) = (25 : Int32) then mBd (mLdX xs L (x4 + (1 : Int32))) (fun r437 => mBd (mCk 8 x1 (f_X10_classForms x1 r437)) (fun r438 => mBd (mLdX xs L (x4 + (1 : Int32))) (fun r439 => mBd (mCk 11 x2 (f_X13_classForms x2 r439)) (fun r440 => (if r438 = r440 then k23 (x4 + 6) else mRt (0 : Int32)))))) else (if (r274 &&& (63 : Int32)) = (26 : Int32) then mBd (mLdX xs L (x4 + (1 : Int32))) (fun r441 => mBd (mLdX xs L (x4 + (2 : Int32))) (fun r442 => mBd (mLdX xs L (x4 + (3 : Int32))) (fun r443 => mBd (mCk 8 x1 (f_X10_meets x1 r441 r442 r443)) (fun r444 => mBd (mLdX xs L (x4 + (1 : Int32))) (fun r445 => mBd (mLdX xs L (x4 + (2 : Int32))) (fun r446 => mBd (mLdX xs L (x4 + (3 : Int32))) (fun r447 => mBd (mCk 11 x2 (f_X13_meets x2 r445 r446 r447)) (fun r448 => (if r444 = r448 then k23 (x4 + 6) else mRt (0 : Int32)))))))))) else (if (r274 &&& (63 : Int32)) = (27 : Int32) then mBd (mLdX xs L (x4 + (1 : Int32))) (fun r449 => mBd (mCk 8 x1 (f_X10_even x1 r449)) (fun r450 => mBd (mLdX xs L (x4 + (1 : Int32))) (fun r451 => mBd (mCk 11 x2 (f_X13_even x2 r451)) (fun r452 => (if r450 = r452 then k23 (x4 + 6) else mRt (0 : Int32)))))) else (if (r274 &&& (63 : Int32)) = (28 : Int32) then mBd (mLdX xs L (x4 + (1 : Int32))) (fun r453 => mBd (mLdX xs L (x4 + (2 : Int32))) (fun r454 => mBd (mLdX xs L (x4 + (3 : Int32))) (fun r455 => mBd (mCk 8 x1 (f_X10_echo x1 r453 r454 r455)) (fun r456 => mBd (mLdX xs L (x4 + (1 : Int32))) (fun r457 => mBd (mLdX xs L (x4 + (2 : Int32))) (fun r458 => mBd (mLdX xs L (x4 + (3 : Int32))) (fun r459 => mBd (mCk 11 x2 (f_X13_echo x2 r457 r458 r459)) (fun r460 => (if r456 = r460 then k23 (x4 + 6) else mRt (0 : Int32)))))))))) else (if (r274 &&& (63 : Int32)) = (29 : Int32) then mBd (mLdX xs L (x4 + (1 : Int32))) (fun r461 => mBd (mLdX xs L (x4 + (2 : Int32))) (fun r462 => mBd (mCk 8 x1 (f_X10_noise x1 r461 r462)) (fun r463 => mBd (mLdX xs L (x4 + (1 : Int32))) (fun r464 => mBd (mLdX xs L (x4 + (2 : Int32))) (fun r465 => mBd (mCk 11 x2 (f_X13_noise x2 r464 r465)) (fun r466 => (if r463 = r466 then k23 (x4 + 6) else mRt (0 : Int32)))))))) else (if (r274 &&& (63 : Int32)) = (30 : Int32) then mBd (mLdX xs L (x4 + (1 : Int32))) (fun r467 => mBd (mCk 8 x1 (f_X10_lowest x1 r467)) (fun r468 => mBd (mLdX xs L (x4 + (1 : Int32))) (fun r469 => mBd (mCk 11 x2 (f_X13_lowest x2 r469)) (fun r470 => (if r468 = r470 then k23 (x4 + 6) else mRt (0 : Int32)))))) else (if (r274 &&& (63 : Int32)) = (31 : Int32) then mBd (mLdX xs L (x4 + (1 : Int32))) (fun r471 => mBd (mCk 8 x1 (f_X10_choose x1 r471)) (fun r472 => mBd (mLdX xs L (x4 + (1 : Int32))) (fun r473 => mBd (mCk 11 x2 (f_X13_choose x2 r473)) (fun r474 => (if r472 = r474 then k23 (x4 + 6) else mRt (0 : Int32)))))) else (if (r274 &&& (63 : Int32)) = (32 : Int32) then mBd (mLdX xs L (x4 + (1 : Int32))) (fun r475 => mBd (mLdX xs L (x4 + (2 : Int32))) (fun r476 => mBd (mCk 8 x1 (f_X10_register x1 r475 r476)) (fun r477 => mBd (mLdX xs L (x4 + (1 : Int32))) (fun r478 => mBd (mLdX xs L (x4 + (2 : Int32))) (fun r479 => mBd (mCk 11 x2 (f_X13_register x2 r478 r479)) (fun r480 => (if r477 = r480 then k23 (x4 + 6) else mRt (0 : Int32)))))))) else (if (r274 &&& (63 : Int32)) = (33 : Int32) then mBd (mLdX xs L (x4 + (1 : Int32))) (fun r481 => mBd (mLdX xs L (x4 + (2 : Int32))) (fun r482 => mBd (mCk 8 x1 (f_X10_take x1 r481 r482)) (fun r483 => mBd (mLdX xs L (x4 + (1 : Int32))) (fun r484 => mBd (mLdX xs L (x4 + (2 : Int32))) (fun r485 => mBd (mCk 11 x2 (f_X13_take x2 r484 r485)) (fun r486 => (if r483 = r486 then k23 (x4 + 6) else mRt (0 : Int32)))))))) else (if (r274 &&& (63 : Int32)) = (34 : Int32) then mBd (mLdX xs L (x4 + (1 : Int32))) (fun r487 => mBd (mLdX xs L (x4 + (2 : Int32))) (fun r488 => mBd (mLdX xs L (x4 + (3 : Int32))) (fun r489 => mBd (mCk 8 x1 (f_X10_jacobi x1 r487 r488 r489)) (fun r490 => mBd (mLdX xs L (x4 + (1 : Int32))) (fun r491 => mBd (mLdX xs L (x4 + (2 : Int32))) (fun r492 => mBd (mLdX xs L (x4 + (3 : Int32))) (fun r493 => mBd (mCk 11 x2 (f_X13_jacobi x2 r491 r492 r493)) (fun r494 => (if r490 = r494 then k23 (x4 + 6) else mRt (0 : Int32)))))))))) else (if (r274 &&& (63 : Int32)) = (35 : Int32) then mBd (mLdX xs L (x4 + (1 : Int32))) (fun r495 => mBd (mLdX xs L (x4 + (2 : Int32))) (fun r496 => mBd (mLdX xs L (x4 + (3 : Int32))) (fun r497 => mBd (mCk 8 x1 (f_X10_add x1 r495 r496 r497)) (fun r498 => mBd (mLdX xs L (x4 + (1 : Int32))) (fun r499 => mBd (mLdX xs L (x4 + (2 : Int32))) (fun r500 => mBd (mLdX xs L (x4 + (3 : Int32))) (fun r501 => mBd (mCk 11 x2 (f_X13_add x2 r499 r500 r501)) (fun r502 => (if r498 = r502 then k23 (x4 + 6) else mRt (0 : Int32)))))))))) else (if (r274 &&& (63 : Int32)) = (36 : Int32) then mBd (mLdX xs L (x4 + (1 : Int32))) (fun r503 => mBd (mLdX xs L (x4 + (2 : Int32))) (fun r504 => mBd (mCk 8 x1 (f_X10_times x1 r503 r504)) (fun r505 => mBd (mLdX xs L (x4 + (1 : Int32))) (fun r506 => mBd (mLdX xs L (x4 + (2 : Int32))) (fun r507 => mBd (mCk 11 x2 (f_X13_times x2 r506 r507)) (fun r508 => (if r505 = r508 then k23 (x4 + 6) else mRt (0 : Int32)))))))) else (if (r274 &&& (63 : Int32)) = (37 : Int32) then mBd (mLdX xs L (x4 + (1 : Int32))) (fun r509 => mBd (mLdX xs L (x4 + (2 : Int32))) (fun r510 => mBd (mCk 8 x1 (f_X10_turn x1 r509 r510)) (fun r511 => mBd (mLdX xs L (x4 + (1 : Int32))) (fun r512 => mBd (mLdX xs L (x4 + (2 : Int32))) (fun r513 => mBd (mCk 11 x2 (f_X13_turn x2 r512 r513)) (fun r514 => (if r511 = r514 then k23 (x4 + 6) else mRt (0 : Int32)))))))) else (if (r274 &&& (63 : Int32)) = (38 : Int32) then mBd (mLdX xs L (x4 + (1 : Int32))) (fun r515 => mBd (mCk 8 x1 (f_X10_size x1 r515)) (fun r516 => mBd (mLdX xs L (x4 + (1 : Int32))) (fun r517 => mBd (mCk 11 x2 (f_X13_size x2 r517)) (fun r518 => (if r516 = r518 then k23 (x4 + 6) else mRt (0 : Int32)))))) else (if (r274 &&& (63 : Int32)) = (39 : Int32) then mBd (mCk 8 x1 (f_X10_undo x1)) (fun r519 => mBd (mCk 11 x2 (f_X13_undo x2)) (fun r520 => (if r519 = r520 then k23 (x4 + 6) else mRt (0 : Int32)))) else (if (r274 &&& (63 : Int32)) = (40 : Int32) then mBd (mCk 8 x1 (f_X10_redo x1)) (fun r521 => mBd (mCk 11 x2 (f_X13_redo x2)) (fun r522 => (if r521 = r522 then k23 (x4 + 6) else mRt (0 : Int32)))) else (if (r274 &&& (63 : Int32)) = (41 : Int32) then mBd (mCk 8 x1 (f_X10_image x1)) (fun r523 => mBd (mCk 11 x2 (f_X13_image x2)) (fun r524 => (if r523 = r524 then k23 (x4 + 6) else mRt (0 : Int32)))) else (if (r274 &&& (63 : Int32)) = (42 : Int32) then mBd (mLdX xs L (x4 + (1 : Int32))) (fun r525 => mBd (mCk 8 x1 (f_X10_restore x1 r525)) (fun r526 => mBd (mLdX xs L (x4 + (1 : Int32))) (fun r527 => mBd (mCk 11 x2 (f_X13_restore x2 r527)) (fun r528 => (if r526 = r528 then k23 (x4 + 6) else mRt (0 : Int32)))))) else (if (r274 &&& (63 : Int32)) = (43 : Int32) then mBd (mLdX xs L (x4 + (1 : Int32))) (fun r529 => mBd (mLdX xs L (x4 + (2 : Int32))) (fun r530 => mBd (f_L_led x1 r529 r530 x3) (fun r531 => mBd (mLdX xs L (x4 + (1 : Int32))) (fun r532 => mBd (mLdX xs L (x4 + (2 : Int32))) (fun r533 => mBd (mCk 11 x2 (f_X13_led x2 r532 r533)) (fun r534 => mBd (mCk 11 x2 (f_X13_thrown x2)) (fun r535 => (if r535 = r531 then (if ¬ r531 = 0 then k23 (x4 + 6) else mBd (mLdJ x3 (0 : Int32)) (fun r536 => (if r536 = (r534.toInt64) then k23 (x4 + 6) else mRt (0 : Int32)))) else mRt (0 : Int32))))))))) else (if (r274 &&& (63 : Int32)) = (44 : Int32) then mBd (mLdX xs L (x4 + (1 : Int32))) (fun r537 => mBd (mCk 8 x1 (f_X10_told x1 r537)) (fun r538 => mBd (mLdX xs L (x4 + (1 : Int32))) (fun r539 => mBd (mCk 11 x2 (f_X13_told x2 r539)) (fun r540 => (if r538 = r540 then k23 (x4 + 6) else mRt (0 : Int32)))))) else (if (r274 &&& (63 : Int32)) = (45 : Int32) then mBd (mCk 8 x1 (f_X10_trouble x1)) (fun r541 => mBd (mCk 11 x2 (f_X13_trouble x2)) (fun r542 => (if r541 = r542 then k23 (x4 + 6) else mRt (0 : Int32)))) else k23 (x4 + 6)))))))))))))))))))))))))))))))))))))))))))))))))
def f_L_law_l23 (xs : Nat → Int32) (L : Nat) (x1 : (Option Nat)) (x2 : (Option Nat)) (x3 : (Option Nat)) : Int32 → Mo Int32 := lq1 (f_L_law_b23 xs L x1 x2 x3) fuel
set_option maxRecDepth 100000 in
theorem s_L_law_b23 {cx : CX} {xs : Nat → Int32} {L : Nat} (hX : Scr cx xs L) (hled : LedOk cx) (x1 : (Option Nat)) (x2 : (Option Nat)) (x3 : (Option Nat)) {k23 : Int32 → Mo Int32} (hk23 : ∀ (z4 : Int32), Sn cx m_L_law eI 23 [(4, vI z4), (0, vA (some 2)), (1, vA x1), (2, vA x2), (3, vA x3)] [] (k23 z4)) (x4 : Int32) : Sn cx m_L_law eI 23 [(4, vI x4), (0, vA ((some 2))), (1, vA x1), (2, vA x2), (3, vA x3)] [] (f_L_law_b23 xs L x1 x2 x3 k23 x4) := by
  refine sn_iload (y := m_L_law) (pc := 23) dL_law_23 rfl ?_
  refine sn_aload_n (y := m_L_law) (pc := 25) dL_law_25 rfl ?_
  refine sn_slen (y := m_L_law) (pc := 26) hX dL_law_26 ?_
  refine sn_bipush (y := m_L_law) (pc := 27) dL_law_27 kc_bipush_6 ?_
  refine sn_isub (y := m_L_law) (pc := 29) dL_law_29 ?_
  refine sn_icmp_gt (y := m_L_law) (pc := 30) (tgt := 1922) dL_law_30 (by decide) (fun _ => ?_) (fun _ => ?_)
  · refine sn_iconst (y := m_L_law) (pc := 1922) dL_law_1922 kc_iconst_1 ?_
    exact sn_zreturnC (by decide) rfl dL_law_1923
  refine sn_aload_n (y := m_L_law) (pc := 33) dL_law_33 rfl ?_
  refine sn_iload (y := m_L_law) (pc := 34) dL_law_34 rfl ?_
  refine sn_sld (y := m_L_law) (pc := 36) hX dL_law_36 (fun r274 => ?_)
  refine sn_bipush (y := m_L_law) (pc := 37) dL_law_37 kc_bipush_63 ?_
  refine sn_iand (y := m_L_law) (pc := 39) dL_law_39 ?_
  refine sn_tabC (y := m_L_law) (pc := 40) (v := (0 : Int32)) (n := 0) (tgt := 240) (off := 200) dL_law_40 (by decide) (by decide) rfl (by decide) ?_ (fun h0 => ?_)
  · refine sn_aload_n (y := m_L_law) (pc := 240) dL_law_240 rfl ?_
    refine sn_aload_n (y := m_L_law) (pc := 241) dL_law_241 rfl ?_
    refine sn_iload (y := m_L_law) (pc := 242) dL_law_242 rfl ?_
    refine sn_iconst (y := m_L_law) (pc := 244) dL_law_244 kc_iconst_1 ?_
    refine sn_iadd (y := m_L_law) (pc := 245) dL_law_245 ?_
    refine sn_sld (y := m_L_law) (pc := 246) hX dL_law_246 (fun r275 => ?_)
    refine sn_aload_n (y := m_L_law) (pc := 247) dL_law_247 rfl ?_
    refine sn_iload (y := m_L_law) (pc := 248) dL_law_248 rfl ?_
    refine sn_iconst (y := m_L_law) (pc := 250) dL_law_250 kc_iconst_2 ?_
    refine sn_iadd (y := m_L_law) (pc := 251) dL_law_251 ?_
    refine sn_sld (y := m_L_law) (pc := 252) hX dL_law_252 (fun r276 => ?_)
    refine sn_aload_n (y := m_L_law) (pc := 253) dL_law_253 rfl ?_
    refine sn_iload (y := m_L_law) (pc := 254) dL_law_254 rfl ?_
    refine sn_iconst (y := m_L_law) (pc := 256) dL_law_256 kc_iconst_3 ?_
    refine sn_iadd (y := m_L_law) (pc := 257) dL_law_257 ?_
    refine sn_sld (y := m_L_law) (pc := 258) hX dL_law_258 (fun r277 => ?_)
    refine sn_aload_n (y := m_L_law) (pc := 259) dL_law_259 rfl ?_
    refine sn_iload (y := m_L_law) (pc := 260) dL_law_260 rfl ?_
    refine sn_iconst (y := m_L_law) (pc := 262) dL_law_262 kc_iconst_4 ?_
    refine sn_iadd (y := m_L_law) (pc := 263) dL_law_263 ?_
    refine sn_sld (y := m_L_law) (pc := 264) hX dL_law_264 (fun r278 => ?_)
    refine sn_aload_n (y := m_L_law) (pc := 265) dL_law_265 rfl ?_
    refine sn_iload (y := m_L_law) (pc := 266) dL_law_266 rfl ?_
    refine sn_iconst (y := m_L_law) (pc := 268) dL_law_268 kc_iconst_5 ?_
    refine sn_iadd (y := m_L_law) (pc := 269) dL_law_269 ?_
    refine sn_sld (y := m_L_law) (pc := 270) hX dL_law_270 (fun r279 => ?_)
    refine sn_invV (y := m_L_law) (pc := 271) ca_8 (av := [vI r275, vI r276, vI r277, vI r278, vI r279]) (o := x1) (st := []) dL_law_271 lk_L_19 im_X10_feed se_X10_feed rfl rfl rfl rfl ⟨by decide, by decide⟩ (c_X10_feed cx.1 x1 r275 r276 r277 r278 r279) (fun r280 => ?_)
    refine sn_aload_n (y := m_L_law) (pc := 274) dL_law_274 rfl ?_
    refine sn_aload_n (y := m_L_law) (pc := 275) dL_law_275 rfl ?_
    refine sn_iload (y := m_L_law) (pc := 276) dL_law_276 rfl ?_
    refine sn_iconst (y := m_L_law) (pc := 278) dL_law_278 kc_iconst_1 ?_
    refine sn_iadd (y := m_L_law) (pc := 279) dL_law_279 ?_
    refine sn_sld (y := m_L_law) (pc := 280) hX dL_law_280 (fun r281 => ?_)
    refine sn_aload_n (y := m_L_law) (pc := 281) dL_law_281 rfl ?_
    refine sn_iload (y := m_L_law) (pc := 282) dL_law_282 rfl ?_
    refine sn_iconst (y := m_L_law) (pc := 284) dL_law_284 kc_iconst_2 ?_
    refine sn_iadd (y := m_L_law) (pc := 285) dL_law_285 ?_
    refine sn_sld (y := m_L_law) (pc := 286) hX dL_law_286 (fun r282 => ?_)
    refine sn_aload_n (y := m_L_law) (pc := 287) dL_law_287 rfl ?_
    refine sn_iload (y := m_L_law) (pc := 288) dL_law_288 rfl ?_
    refine sn_iconst (y := m_L_law) (pc := 290) dL_law_290 kc_iconst_3 ?_
    refine sn_iadd (y := m_L_law) (pc := 291) dL_law_291 ?_
    refine sn_sld (y := m_L_law) (pc := 292) hX dL_law_292 (fun r283 => ?_)
    refine sn_aload_n (y := m_L_law) (pc := 293) dL_law_293 rfl ?_
    refine sn_iload (y := m_L_law) (pc := 294) dL_law_294 rfl ?_
    refine sn_iconst (y := m_L_law) (pc := 296) dL_law_296 kc_iconst_4 ?_
    refine sn_iadd (y := m_L_law) (pc := 297) dL_law_297 ?_
    refine sn_sld (y := m_L_law) (pc := 298) hX dL_law_298 (fun r284 => ?_)
    refine sn_aload_n (y := m_L_law) (pc := 299) dL_law_299 rfl ?_
    refine sn_iload (y := m_L_law) (pc := 300) dL_law_300 rfl ?_
    refine sn_iconst (y := m_L_law) (pc := 302) dL_law_302 kc_iconst_5 ?_
    refine sn_iadd (y := m_L_law) (pc := 303) dL_law_303 ?_
    refine sn_sld (y := m_L_law) (pc := 304) hX dL_law_304 (fun r285 => ?_)
    refine sn_invV (y := m_L_law) (pc := 305) ca_11 (av := [vI r281, vI r282, vI r283, vI r284, vI r285]) (o := x2) (st := [vI r280]) dL_law_305 lk_L_23 im_X13_feed se_X13_feed rfl rfl rfl rfl ⟨by decide, by decide⟩ (c_X13_feed cx.1 x2 r281 r282 r283 r284 r285) (fun r286 => ?_)
    refine sn_icmp_eq (y := m_L_law) (pc := 308) (tgt := 1916) dL_law_308 (by decide) (fun _ => ?_) (fun _ => ?_)
    · refine sn_iinc (y := m_L_law) (pc := 1916) (v := x4 + 6) dL_law_1916 rfl (by rfl) rfl ?_
      refine sn_goto (y := m_L_law) (pc := 1919) (tgt := 23) dL_law_1919 (by decide) ?_
      exact sn_sub rfl (hk23 (x4 + 6))
    refine sn_iconst (y := m_L_law) (pc := 311) dL_law_311 kc_iconst_0 ?_
    exact sn_zreturnC (by decide) rfl dL_law_312
  refine sn_tabC (v := (1 : Int32)) (n := 1) (tgt := 313) (off := 273) dL_law_40 (by decide) (by decide) rfl (by decide) ?_ (fun h1 => ?_)
  · refine sn_aload_n (y := m_L_law) (pc := 313) dL_law_313 rfl ?_
    refine sn_aload_n (y := m_L_law) (pc := 314) dL_law_314 rfl ?_
    refine sn_iload (y := m_L_law) (pc := 315) dL_law_315 rfl ?_
    refine sn_iconst (y := m_L_law) (pc := 317) dL_law_317 kc_iconst_1 ?_
    refine sn_iadd (y := m_L_law) (pc := 318) dL_law_318 ?_
    refine sn_sld (y := m_L_law) (pc := 319) hX dL_law_319 (fun r287 => ?_)
    refine sn_invV (y := m_L_law) (pc := 320) ca_8 (av := [vI r287]) (o := x1) (st := []) dL_law_320 lk_L_24 im_X10_book se_X10_book rfl rfl rfl rfl ⟨by decide, by decide⟩ (c_X10_book cx.1 x1 r287) (fun r288 => ?_)
    refine sn_aload_n (y := m_L_law) (pc := 323) dL_law_323 rfl ?_
    refine sn_aload_n (y := m_L_law) (pc := 324) dL_law_324 rfl ?_
    refine sn_iload (y := m_L_law) (pc := 325) dL_law_325 rfl ?_
    refine sn_iconst (y := m_L_law) (pc := 327) dL_law_327 kc_iconst_1 ?_
    refine sn_iadd (y := m_L_law) (pc := 328) dL_law_328 ?_
    refine sn_sld (y := m_L_law) (pc := 329) hX dL_law_329 (fun r289 => ?_)
    refine sn_invV (y := m_L_law) (pc := 330) ca_11 (av := [vI r289]) (o := x2) (st := [vI r288]) dL_law_330 lk_L_28 im_X13_book se_X13_book rfl rfl rfl rfl ⟨by decide, by decide⟩ (c_X13_book cx.1 x2 r289) (fun r290 => ?_)
    refine sn_icmp_eq (y := m_L_law) (pc := 333) (tgt := 1916) dL_law_333 (by decide) (fun _ => ?_) (fun _ => ?_)
    · refine sn_iinc (y := m_L_law) (pc := 1916) (v := x4 + 6) dL_law_1916 rfl (by rfl) rfl ?_
      refine sn_goto (y := m_L_law) (pc := 1919) (tgt := 23) dL_law_1919 (by decide) ?_
      exact sn_sub rfl (hk23 (x4 + 6))
    refine sn_iconst (y := m_L_law) (pc := 336) dL_law_336 kc_iconst_0 ?_
    exact sn_zreturnC (by decide) rfl dL_law_337
  refine sn_tabC (v := (2 : Int32)) (n := 2) (tgt := 338) (off := 298) dL_law_40 (by decide) (by decide) rfl (by decide) ?_ (fun h2 => ?_)
  · refine sn_aload_n (y := m_L_law) (pc := 338) dL_law_338 rfl ?_
    refine sn_invV (y := m_L_law) (pc := 339) ca_8 (av := []) (o := x1) (st := []) dL_law_339 lk_L_29 im_X10_fault se_X10_fault rfl rfl rfl rfl ⟨by decide, by decide⟩ (c_X10_fault cx.1 x1) (fun r291 => ?_)
    refine sn_aload_n (y := m_L_law) (pc := 342) dL_law_342 rfl ?_
    refine sn_invV (y := m_L_law) (pc := 343) ca_11 (av := []) (o := x2) (st := [vI r291]) dL_law_343 lk_L_33 im_X13_fault se_X13_fault rfl rfl rfl rfl ⟨by decide, by decide⟩ (c_X13_fault cx.1 x2) (fun r292 => ?_)
    refine sn_icmp_eq (y := m_L_law) (pc := 346) (tgt := 1916) dL_law_346 (by decide) (fun _ => ?_) (fun _ => ?_)
    · refine sn_iinc (y := m_L_law) (pc := 1916) (v := x4 + 6) dL_law_1916 rfl (by rfl) rfl ?_
      refine sn_goto (y := m_L_law) (pc := 1919) (tgt := 23) dL_law_1919 (by decide) ?_
      exact sn_sub rfl (hk23 (x4 + 6))
    refine sn_iconst (y := m_L_law) (pc := 349) dL_law_349 kc_iconst_0 ?_
    exact sn_zreturnC (by decide) rfl dL_law_350
  refine sn_tabC (v := (3 : Int32)) (n := 3) (tgt := 351) (off := 311) dL_law_40 (by decide) (by decide) rfl (by decide) ?_ (fun h3 => ?_)
  · refine sn_aload_n (y := m_L_law) (pc := 351) dL_law_351 rfl ?_
    refine sn_invV (y := m_L_law) (pc := 352) ca_8 (av := []) (o := x1) (st := []) dL_law_352 lk_L_34 im_X10_where se_X10_where rfl rfl rfl rfl ⟨by decide, by decide⟩ (c_X10_where cx.1 x1) (fun r293 => ?_)
    refine sn_aload_n (y := m_L_law) (pc := 355) dL_law_355 rfl ?_
    refine sn_invV (y := m_L_law) (pc := 356) ca_11 (av := []) (o := x2) (st := [vI r293]) dL_law_356 lk_L_37 im_X13_where se_X13_where rfl rfl rfl rfl ⟨by decide, by decide⟩ (c_X13_where cx.1 x2) (fun r294 => ?_)
    refine sn_icmp_eq (y := m_L_law) (pc := 359) (tgt := 1916) dL_law_359 (by decide) (fun _ => ?_) (fun _ => ?_)
    · refine sn_iinc (y := m_L_law) (pc := 1916) (v := x4 + 6) dL_law_1916 rfl (by rfl) rfl ?_
      refine sn_goto (y := m_L_law) (pc := 1919) (tgt := 23) dL_law_1919 (by decide) ?_
      exact sn_sub rfl (hk23 (x4 + 6))
    refine sn_iconst (y := m_L_law) (pc := 362) dL_law_362 kc_iconst_0 ?_
    exact sn_zreturnC (by decide) rfl dL_law_363
  refine sn_tabC (v := (4 : Int32)) (n := 4) (tgt := 364) (off := 324) dL_law_40 (by decide) (by decide) rfl (by decide) ?_ (fun h4 => ?_)
  · refine sn_aload_n (y := m_L_law) (pc := 364) dL_law_364 rfl ?_
    refine sn_aload_n (y := m_L_law) (pc := 365) dL_law_365 rfl ?_
    refine sn_iload (y := m_L_law) (pc := 366) dL_law_366 rfl ?_
    refine sn_iconst (y := m_L_law) (pc := 368) dL_law_368 kc_iconst_1 ?_
    refine sn_iadd (y := m_L_law) (pc := 369) dL_law_369 ?_
    refine sn_sld (y := m_L_law) (pc := 370) hX dL_law_370 (fun r295 => ?_)
    refine sn_aload_n (y := m_L_law) (pc := 371) dL_law_371 rfl ?_
    refine sn_iload (y := m_L_law) (pc := 372) dL_law_372 rfl ?_
    refine sn_iconst (y := m_L_law) (pc := 374) dL_law_374 kc_iconst_2 ?_
    refine sn_iadd (y := m_L_law) (pc := 375) dL_law_375 ?_
    refine sn_sld (y := m_L_law) (pc := 376) hX dL_law_376 (fun r296 => ?_)
    refine sn_invV (y := m_L_law) (pc := 377) ca_8 (av := [vI r295, vI r296]) (o := x1) (st := []) dL_law_377 lk_L_38 im_X10_field se_X10_field rfl rfl rfl rfl ⟨by decide, by decide⟩ (c_X10_field cx.1 x1 r295 r296) (fun r297 => ?_)
    refine sn_aload_n (y := m_L_law) (pc := 380) dL_law_380 rfl ?_
    refine sn_aload_n (y := m_L_law) (pc := 381) dL_law_381 rfl ?_
    refine sn_iload (y := m_L_law) (pc := 382) dL_law_382 rfl ?_
    refine sn_iconst (y := m_L_law) (pc := 384) dL_law_384 kc_iconst_1 ?_
    refine sn_iadd (y := m_L_law) (pc := 385) dL_law_385 ?_
    refine sn_sld (y := m_L_law) (pc := 386) hX dL_law_386 (fun r298 => ?_)
    refine sn_aload_n (y := m_L_law) (pc := 387) dL_law_387 rfl ?_
    refine sn_iload (y := m_L_law) (pc := 388) dL_law_388 rfl ?_
    refine sn_iconst (y := m_L_law) (pc := 390) dL_law_390 kc_iconst_2 ?_
    refine sn_iadd (y := m_L_law) (pc := 391) dL_law_391 ?_
    refine sn_sld (y := m_L_law) (pc := 392) hX dL_law_392 (fun r299 => ?_)
    refine sn_invV (y := m_L_law) (pc := 393) ca_11 (av := [vI r298, vI r299]) (o := x2) (st := [vI r297]) dL_law_393 lk_L_41 im_X13_field se_X13_field rfl rfl rfl rfl ⟨by decide, by decide⟩ (c_X13_field cx.1 x2 r298 r299) (fun r300 => ?_)
    refine sn_icmp_eq (y := m_L_law) (pc := 396) (tgt := 1916) dL_law_396 (by decide) (fun _ => ?_) (fun _ => ?_)
    · refine sn_iinc (y := m_L_law) (pc := 1916) (v := x4 + 6) dL_law_1916 rfl (by rfl) rfl ?_
      refine sn_goto (y := m_L_law) (pc := 1919) (tgt := 23) dL_law_1919 (by decide) ?_
      exact sn_sub rfl (hk23 (x4 + 6))
    refine sn_iconst (y := m_L_law) (pc := 399) dL_law_399 kc_iconst_0 ?_
    exact sn_zreturnC (by decide) rfl dL_law_400
  refine sn_tabC (v := (5 : Int32)) (n := 5) (tgt := 401) (off := 361) dL_law_40 (by decide) (by decide) rfl (by decide) ?_ (fun h5 => ?_)
  · refine sn_aload_n (y := m_L_law) (pc := 401) dL_law_401 rfl ?_
    refine sn_aload_n (y := m_L_law) (pc := 402) dL_law_402 rfl ?_
    refine sn_iload (y := m_L_law) (pc := 403) dL_law_403 rfl ?_
    refine sn_iconst (y := m_L_law) (pc := 405) dL_law_405 kc_iconst_1 ?_
    refine sn_iadd (y := m_L_law) (pc := 406) dL_law_406 ?_
    refine sn_sld (y := m_L_law) (pc := 407) hX dL_law_407 (fun r301 => ?_)
    refine sn_aload_n (y := m_L_law) (pc := 408) dL_law_408 rfl ?_
    refine sn_iload (y := m_L_law) (pc := 409) dL_law_409 rfl ?_
    refine sn_iconst (y := m_L_law) (pc := 411) dL_law_411 kc_iconst_2 ?_
    refine sn_iadd (y := m_L_law) (pc := 412) dL_law_412 ?_
    refine sn_sld (y := m_L_law) (pc := 413) hX dL_law_413 (fun r302 => ?_)
    refine sn_invV (y := m_L_law) (pc := 414) ca_8 (av := [vI r301, vI r302]) (o := x1) (st := []) dL_law_414 lk_L_42 im_X10_log se_X10_log rfl rfl rfl rfl ⟨by decide, by decide⟩ (c_X10_log cx.1 x1 r301 r302) (fun r303 => ?_)
    refine sn_aload_n (y := m_L_law) (pc := 417) dL_law_417 rfl ?_
    refine sn_aload_n (y := m_L_law) (pc := 418) dL_law_418 rfl ?_
    refine sn_iload (y := m_L_law) (pc := 419) dL_law_419 rfl ?_
    refine sn_iconst (y := m_L_law) (pc := 421) dL_law_421 kc_iconst_1 ?_
    refine sn_iadd (y := m_L_law) (pc := 422) dL_law_422 ?_
    refine sn_sld (y := m_L_law) (pc := 423) hX dL_law_423 (fun r304 => ?_)
    refine sn_aload_n (y := m_L_law) (pc := 424) dL_law_424 rfl ?_
    refine sn_iload (y := m_L_law) (pc := 425) dL_law_425 rfl ?_
    refine sn_iconst (y := m_L_law) (pc := 427) dL_law_427 kc_iconst_2 ?_
    refine sn_iadd (y := m_L_law) (pc := 428) dL_law_428 ?_
    refine sn_sld (y := m_L_law) (pc := 429) hX dL_law_429 (fun r305 => ?_)
    refine sn_invV (y := m_L_law) (pc := 430) ca_11 (av := [vI r304, vI r305]) (o := x2) (st := [vI r303]) dL_law_430 lk_L_45 im_X13_log se_X13_log rfl rfl rfl rfl ⟨by decide, by decide⟩ (c_X13_log cx.1 x2 r304 r305) (fun r306 => ?_)
    refine sn_icmp_eq (y := m_L_law) (pc := 433) (tgt := 1916) dL_law_433 (by decide) (fun _ => ?_) (fun _ => ?_)
    · refine sn_iinc (y := m_L_law) (pc := 1916) (v := x4 + 6) dL_law_1916 rfl (by rfl) rfl ?_
      refine sn_goto (y := m_L_law) (pc := 1919) (tgt := 23) dL_law_1919 (by decide) ?_
      exact sn_sub rfl (hk23 (x4 + 6))
    refine sn_iconst (y := m_L_law) (pc := 436) dL_law_436 kc_iconst_0 ?_
    exact sn_zreturnC (by decide) rfl dL_law_437
  refine sn_tabC (v := (6 : Int32)) (n := 6) (tgt := 438) (off := 398) dL_law_40 (by decide) (by decide) rfl (by decide) ?_ (fun h6 => ?_)
  · refine sn_aload_n (y := m_L_law) (pc := 438) dL_law_438 rfl ?_
    refine sn_aload_n (y := m_L_law) (pc := 439) dL_law_439 rfl ?_
    refine sn_iload (y := m_L_law) (pc := 440) dL_law_440 rfl ?_
    refine sn_iconst (y := m_L_law) (pc := 442) dL_law_442 kc_iconst_1 ?_
    refine sn_iadd (y := m_L_law) (pc := 443) dL_law_443 ?_
    refine sn_sld (y := m_L_law) (pc := 444) hX dL_law_444 (fun r307 => ?_)
    refine sn_aload_n (y := m_L_law) (pc := 445) dL_law_445 rfl ?_
    refine sn_iload (y := m_L_law) (pc := 446) dL_law_446 rfl ?_
    refine sn_iconst (y := m_L_law) (pc := 448) dL_law_448 kc_iconst_2 ?_
    refine sn_iadd (y := m_L_law) (pc := 449) dL_law_449 ?_
    refine sn_sld (y := m_L_law) (pc := 450) hX dL_law_450 (fun r308 => ?_)
    refine sn_aload_n (y := m_L_law) (pc := 451) dL_law_451 rfl ?_
    refine sn_iload (y := m_L_law) (pc := 452) dL_law_452 rfl ?_
    refine sn_iconst (y := m_L_law) (pc := 454) dL_law_454 kc_iconst_3 ?_
    refine sn_iadd (y := m_L_law) (pc := 455) dL_law_455 ?_
    refine sn_sld (y := m_L_law) (pc := 456) hX dL_law_456 (fun r309 => ?_)
    refine sn_invV (y := m_L_law) (pc := 457) ca_8 (av := [vI r307, vI r308, vI r309]) (o := x1) (st := []) dL_law_457 lk_L_46 im_X10_character se_X10_character rfl rfl rfl rfl ⟨by decide, by decide⟩ (c_X10_character cx.1 x1 r307 r308 r309) (fun r310 => ?_)
    refine sn_aload_n (y := m_L_law) (pc := 460) dL_law_460 rfl ?_
    refine sn_aload_n (y := m_L_law) (pc := 461) dL_law_461 rfl ?_
    refine sn_iload (y := m_L_law) (pc := 462) dL_law_462 rfl ?_
    refine sn_iconst (y := m_L_law) (pc := 464) dL_law_464 kc_iconst_1 ?_
    refine sn_iadd (y := m_L_law) (pc := 465) dL_law_465 ?_
    refine sn_sld (y := m_L_law) (pc := 466) hX dL_law_466 (fun r311 => ?_)
    refine sn_aload_n (y := m_L_law) (pc := 467) dL_law_467 rfl ?_
    refine sn_iload (y := m_L_law) (pc := 468) dL_law_468 rfl ?_
    refine sn_iconst (y := m_L_law) (pc := 470) dL_law_470 kc_iconst_2 ?_
    refine sn_iadd (y := m_L_law) (pc := 471) dL_law_471 ?_
    refine sn_sld (y := m_L_law) (pc := 472) hX dL_law_472 (fun r312 => ?_)
    refine sn_aload_n (y := m_L_law) (pc := 473) dL_law_473 rfl ?_
    refine sn_iload (y := m_L_law) (pc := 474) dL_law_474 rfl ?_
    refine sn_iconst (y := m_L_law) (pc := 476) dL_law_476 kc_iconst_3 ?_
    refine sn_iadd (y := m_L_law) (pc := 477) dL_law_477 ?_
    refine sn_sld (y := m_L_law) (pc := 478) hX dL_law_478 (fun r313 => ?_)
    refine sn_invV (y := m_L_law) (pc := 479) ca_11 (av := [vI r311, vI r312, vI r313]) (o := x2) (st := [vI r310]) dL_law_479 lk_L_50 im_X13_character se_X13_character rfl rfl rfl rfl ⟨by decide, by decide⟩ (c_X13_character cx.1 x2 r311 r312 r313) (fun r314 => ?_)
    refine sn_icmp_eq (y := m_L_law) (pc := 482) (tgt := 1916) dL_law_482 (by decide) (fun _ => ?_) (fun _ => ?_)
    · refine sn_iinc (y := m_L_law) (pc := 1916) (v := x4 + 6) dL_law_1916 rfl (by rfl) rfl ?_
      refine sn_goto (y := m_L_law) (pc := 1919) (tgt := 23) dL_law_1919 (by decide) ?_
      exact sn_sub rfl (hk23 (x4 + 6))
    refine sn_iconst (y := m_L_law) (pc := 485) dL_law_485 kc_iconst_0 ?_
    exact sn_zreturnC (by decide) rfl dL_law_486
  refine sn_tabC (v := (7 : Int32)) (n := 7) (tgt := 487) (off := 447) dL_law_40 (by decide) (by decide) rfl (by decide) ?_ (fun h7 => ?_)
  · refine sn_aload_n (y := m_L_law) (pc := 487) dL_law_487 rfl ?_
    refine sn_aload_n (y := m_L_law) (pc := 488) dL_law_488 rfl ?_
    refine sn_iload (y := m_L_law) (pc := 489) dL_law_489 rfl ?_
    refine sn_iconst (y := m_L_law) (pc := 491) dL_law_491 kc_iconst_1 ?_
    refine sn_iadd (y := m_L_law) (pc := 492) dL_law_492 ?_
    refine sn_sld (y := m_L_law) (pc := 493) hX dL_law_493 (fun r315 => ?_)
    refine sn_aload_n (y := m_L_law) (pc := 494) dL_law_494 rfl ?_
    refine sn_iload (y := m_L_law) (pc := 495) dL_law_495 rfl ?_
    refine sn_iconst (y := m_L_law) (pc := 497) dL_law_497 kc_iconst_2 ?_
    refine sn_iadd (y := m_L_law) (pc := 498) dL_law_498 ?_
    refine sn_sld (y := m_L_law) (pc := 499) hX dL_law_499 (fun r316 => ?_)
    refine sn_aload_n (y := m_L_law) (pc := 500) dL_law_500 rfl ?_
    refine sn_iload (y := m_L_law) (pc := 501) dL_law_501 rfl ?_
    refine sn_iconst (y := m_L_law) (pc := 503) dL_law_503 kc_iconst_3 ?_
    refine sn_iadd (y := m_L_law) (pc := 504) dL_law_504 ?_
    refine sn_sld (y := m_L_law) (pc := 505) hX dL_law_505 (fun r317 => ?_)
    refine sn_aload_n (y := m_L_law) (pc := 506) dL_law_506 rfl ?_
    refine sn_iload (y := m_L_law) (pc := 507) dL_law_507 rfl ?_
    refine sn_iconst (y := m_L_law) (pc := 509) dL_law_509 kc_iconst_4 ?_
    refine sn_iadd (y := m_L_law) (pc := 510) dL_law_510 ?_
    refine sn_sld (y := m_L_law) (pc := 511) hX dL_law_511 (fun r318 => ?_)
    refine sn_invV (y := m_L_law) (pc := 512) ca_8 (av := [vI r315, vI r316, vI r317, vI r318]) (o := x1) (st := []) dL_law_512 lk_L_51 im_X10_sum se_X10_sum rfl rfl rfl rfl ⟨by decide, by decide⟩ (c_X10_sum cx.1 x1 r315 r316 r317 r318) (fun r319 => ?_)
    refine sn_aload_n (y := m_L_law) (pc := 515) dL_law_515 rfl ?_
    refine sn_aload_n (y := m_L_law) (pc := 516) dL_law_516 rfl ?_
    refine sn_iload (y := m_L_law) (pc := 517) dL_law_517 rfl ?_
    refine sn_iconst (y := m_L_law) (pc := 519) dL_law_519 kc_iconst_1 ?_
    refine sn_iadd (y := m_L_law) (pc := 520) dL_law_520 ?_
    refine sn_sld (y := m_L_law) (pc := 521) hX dL_law_521 (fun r320 => ?_)
    refine sn_aload_n (y := m_L_law) (pc := 522) dL_law_522 rfl ?_
    refine sn_iload (y := m_L_law) (pc := 523) dL_law_523 rfl ?_
    refine sn_iconst (y := m_L_law) (pc := 525) dL_law_525 kc_iconst_2 ?_
    refine sn_iadd (y := m_L_law) (pc := 526) dL_law_526 ?_
    refine sn_sld (y := m_L_law) (pc := 527) hX dL_law_527 (fun r321 => ?_)
    refine sn_aload_n (y := m_L_law) (pc := 528) dL_law_528 rfl ?_
    refine sn_iload (y := m_L_law) (pc := 529) dL_law_529 rfl ?_
    refine sn_iconst (y := m_L_law) (pc := 531) dL_law_531 kc_iconst_3 ?_
    refine sn_iadd (y := m_L_law) (pc := 532) dL_law_532 ?_
    refine sn_sld (y := m_L_law) (pc := 533) hX dL_law_533 (fun r322 => ?_)
    refine sn_aload_n (y := m_L_law) (pc := 534) dL_law_534 rfl ?_
    refine sn_iload (y := m_L_law) (pc := 535) dL_law_535 rfl ?_
    refine sn_iconst (y := m_L_law) (pc := 537) dL_law_537 kc_iconst_4 ?_
    refine sn_iadd (y := m_L_law) (pc := 538) dL_law_538 ?_
    refine sn_sld (y := m_L_law) (pc := 539) hX dL_law_539 (fun r323 => ?_)
    refine sn_invV (y := m_L_law) (pc := 540) ca_11 (av := [vI r320, vI r321, vI r322, vI r323]) (o := x2) (st := [vI r319]) dL_law_540 lk_L_55 im_X13_sum se_X13_sum rfl rfl rfl rfl ⟨by decide, by decide⟩ (c_X13_sum cx.1 x2 r320 r321 r322 r323) (fun r324 => ?_)
    refine sn_icmp_eq (y := m_L_law) (pc := 543) (tgt := 1916) dL_law_543 (by decide) (fun _ => ?_) (fun _ => ?_)
    · refine sn_iinc (y := m_L_law) (pc := 1916) (v := x4 + 6) dL_law_1916 rfl (by rfl) rfl ?_
      refine sn_goto (y := m_L_law) (pc := 1919) (tgt := 23) dL_law_1919 (by decide) ?_
      exact sn_sub rfl (hk23 (x4 + 6))
    refine sn_iconst (y := m_L_law) (pc := 546) dL_law_546 kc_iconst_0 ?_
    exact sn_zreturnC (by decide) rfl dL_law_547
  refine sn_tabC (v := (8 : Int32)) (n := 8) (tgt := 548) (off := 508) dL_law_40 (by decide) (by decide) rfl (by decide) ?_ (fun h8 => ?_)
  · refine sn_aload_n (y := m_L_law) (pc := 548) dL_law_548 rfl ?_
    refine sn_aload_n (y := m_L_law) (pc := 549) dL_law_549 rfl ?_
    refine sn_iload (y := m_L_law) (pc := 550) dL_law_550 rfl ?_
    refine sn_iconst (y := m_L_law) (pc := 552) dL_law_552 kc_iconst_1 ?_
    refine sn_iadd (y := m_L_law) (pc := 553) dL_law_553 ?_
    refine sn_sld (y := m_L_law) (pc := 554) hX dL_law_554 (fun r325 => ?_)
    refine sn_aload_n (y := m_L_law) (pc := 555) dL_law_555 rfl ?_
    refine sn_iload (y := m_L_law) (pc := 556) dL_law_556 rfl ?_
    refine sn_iconst (y := m_L_law) (pc := 558) dL_law_558 kc_iconst_2 ?_
    refine sn_iadd (y := m_L_law) (pc := 559) dL_law_559 ?_
    refine sn_sld (y := m_L_law) (pc := 560) hX dL_law_560 (fun r326 => ?_)
    refine sn_aload_n (y := m_L_law) (pc := 561) dL_law_561 rfl ?_
    refine sn_iload (y := m_L_law) (pc := 562) dL_law_562 rfl ?_
    refine sn_iconst (y := m_L_law) (pc := 564) dL_law_564 kc_iconst_3 ?_
    refine sn_iadd (y := m_L_law) (pc := 565) dL_law_565 ?_
    refine sn_sld (y := m_L_law) (pc := 566) hX dL_law_566 (fun r327 => ?_)
    refine sn_invV (y := m_L_law) (pc := 567) ca_8 (av := [vI r325, vI r326, vI r327]) (o := x1) (st := []) dL_law_567 lk_L_56 im_X10_norm se_X10_norm rfl rfl rfl rfl ⟨by decide, by decide⟩ (c_X10_norm cx.1 x1 r325 r326 r327) (fun r328 => ?_)
    refine sn_aload_n (y := m_L_law) (pc := 570) dL_law_570 rfl ?_
    refine sn_aload_n (y := m_L_law) (pc := 571) dL_law_571 rfl ?_
    refine sn_iload (y := m_L_law) (pc := 572) dL_law_572 rfl ?_
    refine sn_iconst (y := m_L_law) (pc := 574) dL_law_574 kc_iconst_1 ?_
    refine sn_iadd (y := m_L_law) (pc := 575) dL_law_575 ?_
    refine sn_sld (y := m_L_law) (pc := 576) hX dL_law_576 (fun r329 => ?_)
    refine sn_aload_n (y := m_L_law) (pc := 577) dL_law_577 rfl ?_
    refine sn_iload (y := m_L_law) (pc := 578) dL_law_578 rfl ?_
    refine sn_iconst (y := m_L_law) (pc := 580) dL_law_580 kc_iconst_2 ?_
    refine sn_iadd (y := m_L_law) (pc := 581) dL_law_581 ?_
    refine sn_sld (y := m_L_law) (pc := 582) hX dL_law_582 (fun r330 => ?_)
    refine sn_aload_n (y := m_L_law) (pc := 583) dL_law_583 rfl ?_
    refine sn_iload (y := m_L_law) (pc := 584) dL_law_584 rfl ?_
    refine sn_iconst (y := m_L_law) (pc := 586) dL_law_586 kc_iconst_3 ?_
    refine sn_iadd (y := m_L_law) (pc := 587) dL_law_587 ?_
    refine sn_sld (y := m_L_law) (pc := 588) hX dL_law_588 (fun r331 => ?_)
    refine sn_invV (y := m_L_law) (pc := 589) ca_11 (av := [vI r329, vI r330, vI r331]) (o := x2) (st := [vI r328]) dL_law_589 lk_L_59 im_X13_norm se_X13_norm rfl rfl rfl rfl ⟨by decide, by decide⟩ (c_X13_norm cx.1 x2 r329 r330 r331) (fun r332 => ?_)
    refine sn_icmp_eq (y := m_L_law) (pc := 592) (tgt := 1916) dL_law_592 (by decide) (fun _ => ?_) (fun _ => ?_)
    · refine sn_iinc (y := m_L_law) (pc := 1916) (v := x4 + 6) dL_law_1916 rfl (by rfl) rfl ?_
      refine sn_goto (y := m_L_law) (pc := 1919) (tgt := 23) dL_law_1919 (by decide) ?_
      exact sn_sub rfl (hk23 (x4 + 6))
    refine sn_iconst (y := m_L_law) (pc := 595) dL_law_595 kc_iconst_0 ?_
    exact sn_zreturnC (by decide) rfl dL_law_596
  refine sn_tabC (v := (9 : Int32)) (n := 9) (tgt := 597) (off := 557) dL_law_40 (by decide) (by decide) rfl (by decide) ?_ (fun h9 => ?_)
  · refine sn_aload_n (y := m_L_law) (pc := 597) dL_law_597 rfl ?_
    refine sn_aload_n (y := m_L_law) (pc := 598) dL_law_598 rfl ?_
    refine sn_iload (y := m_L_law) (pc := 599) dL_law_599 rfl ?_
    refine sn_iconst (y := m_L_law) (pc := 601) dL_law_601 kc_iconst_1 ?_
    refine sn_iadd (y := m_L_law) (pc := 602) dL_law_602 ?_
    refine sn_sld (y := m_L_law) (pc := 603) hX dL_law_603 (fun r333 => ?_)
    refine sn_aload_n (y := m_L_law) (pc := 604) dL_law_604 rfl ?_
    refine sn_iload (y := m_L_law) (pc := 605) dL_law_605 rfl ?_
    refine sn_iconst (y := m_L_law) (pc := 607) dL_law_607 kc_iconst_2 ?_
    refine sn_iadd (y := m_L_law) (pc := 608) dL_law_608 ?_
    refine sn_sld (y := m_L_law) (pc := 609) hX dL_law_609 (fun r334 => ?_)
    refine sn_aload_n (y := m_L_law) (pc := 610) dL_law_610 rfl ?_
    refine sn_iload (y := m_L_law) (pc := 611) dL_law_611 rfl ?_
    refine sn_iconst (y := m_L_law) (pc := 613) dL_law_613 kc_iconst_3 ?_
    refine sn_iadd (y := m_L_law) (pc := 614) dL_law_614 ?_
    refine sn_sld (y := m_L_law) (pc := 615) hX dL_law_615 (fun r335 => ?_)
    refine sn_aload_n (y := m_L_law) (pc := 616) dL_law_616 rfl ?_
    refine sn_iload (y := m_L_law) (pc := 617) dL_law_617 rfl ?_
    refine sn_iconst (y := m_L_law) (pc := 619) dL_law_619 kc_iconst_4 ?_
    refine sn_iadd (y := m_L_law) (pc := 620) dL_law_620 ?_
    refine sn_sld (y := m_L_law) (pc := 621) hX dL_law_621 (fun r336 => ?_)
    refine sn_invV (y := m_L_law) (pc := 622) ca_8 (av := [vI r333, vI r334, vI r335, vI r336]) (o := x1) (st := []) dL_law_622 lk_L_60 im_X10_relation se_X10_relation rfl rfl rfl rfl ⟨by decide, by decide⟩ (c_X10_relation cx.1 x1 r333 r334 r335 r336) (fun r337 => ?_)
    refine sn_aload_n (y := m_L_law) (pc := 625) dL_law_625 rfl ?_
    refine sn_aload_n (y := m_L_law) (pc := 626) dL_law_626 rfl ?_
    refine sn_iload (y := m_L_law) (pc := 627) dL_law_627 rfl ?_
    refine sn_iconst (y := m_L_law) (pc := 629) dL_law_629 kc_iconst_1 ?_
    refine sn_iadd (y := m_L_law) (pc := 630) dL_law_630 ?_
    refine sn_sld (y := m_L_law) (pc := 631) hX dL_law_631 (fun r338 => ?_)
    refine sn_aload_n (y := m_L_law) (pc := 632) dL_law_632 rfl ?_
    refine sn_iload (y := m_L_law) (pc := 633) dL_law_633 rfl ?_
    refine sn_iconst (y := m_L_law) (pc := 635) dL_law_635 kc_iconst_2 ?_
    refine sn_iadd (y := m_L_law) (pc := 636) dL_law_636 ?_
    refine sn_sld (y := m_L_law) (pc := 637) hX dL_law_637 (fun r339 => ?_)
    refine sn_aload_n (y := m_L_law) (pc := 638) dL_law_638 rfl ?_
    refine sn_iload (y := m_L_law) (pc := 639) dL_law_639 rfl ?_
    refine sn_iconst (y := m_L_law) (pc := 641) dL_law_641 kc_iconst_3 ?_
    refine sn_iadd (y := m_L_law) (pc := 642) dL_law_642 ?_
    refine sn_sld (y := m_L_law) (pc := 643) hX dL_law_643 (fun r340 => ?_)
    refine sn_aload_n (y := m_L_law) (pc := 644) dL_law_644 rfl ?_
    refine sn_iload (y := m_L_law) (pc := 645) dL_law_645 rfl ?_
    refine sn_iconst (y := m_L_law) (pc := 647) dL_law_647 kc_iconst_4 ?_
    refine sn_iadd (y := m_L_law) (pc := 648) dL_law_648 ?_
    refine sn_sld (y := m_L_law) (pc := 649) hX dL_law_649 (fun r341 => ?_)
    refine sn_invV (y := m_L_law) (pc := 650) ca_11 (av := [vI r338, vI r339, vI r340, vI r341]) (o := x2) (st := [vI r337]) dL_law_650 lk_L_63 im_X13_relation se_X13_relation rfl rfl rfl rfl ⟨by decide, by decide⟩ (c_X13_relation cx.1 x2 r338 r339 r340 r341) (fun r342 => ?_)
    refine sn_icmp_eq (y := m_L_law) (pc := 653) (tgt := 1916) dL_law_653 (by decide) (fun _ => ?_) (fun _ => ?_)
    · refine sn_iinc (y := m_L_law) (pc := 1916) (v := x4 + 6) dL_law_1916 rfl (by rfl) rfl ?_
      refine sn_goto (y := m_L_law) (pc := 1919) (tgt := 23) dL_law_1919 (by decide) ?_
      exact sn_sub rfl (hk23 (x4 + 6))
    refine sn_iconst (y := m_L_law) (pc := 656) dL_law_656 kc_iconst_0 ?_
    exact sn_zreturnC (by decide) rfl dL_law_657
  refine sn_tabC (v := (10 : Int32)) (n := 10) (tgt := 658) (off := 618) dL_law_40 (by decide) (by decide) rfl (by decide) ?_ (fun h10 => ?_)
  · refine sn_aload_n (y := m_L_law) (pc := 658) dL_law_658 rfl ?_
    refine sn_aload_n (y := m_L_law) (pc := 659) dL_law_659 rfl ?_
    refine sn_iload (y := m_L_law) (pc := 660) dL_law_660 rfl ?_
    refine sn_iconst (y := m_L_law) (pc := 662) dL_law_662 kc_iconst_1 ?_
    refine sn_iadd (y := m_L_law) (pc := 663) dL_law_663 ?_
    refine sn_sld (y := m_L_law) (pc := 664) hX dL_law_664 (fun r343 => ?_)
    refine sn_aload_n (y := m_L_law) (pc := 665) dL_law_665 rfl ?_
    refine sn_iload (y := m_L_law) (pc := 666) dL_law_666 rfl ?_
    refine sn_iconst (y := m_L_law) (pc := 668) dL_law_668 kc_iconst_2 ?_
    refine sn_iadd (y := m_L_law) (pc := 669) dL_law_669 ?_
    refine sn_sld (y := m_L_law) (pc := 670) hX dL_law_670 (fun r344 => ?_)
    refine sn_aload_n (y := m_L_law) (pc := 671) dL_law_671 rfl ?_
    refine sn_iload (y := m_L_law) (pc := 672) dL_law_672 rfl ?_
    refine sn_iconst (y := m_L_law) (pc := 674) dL_law_674 kc_iconst_3 ?_
    refine sn_iadd (y := m_L_law) (pc := 675) dL_law_675 ?_
    refine sn_sld (y := m_L_law) (pc := 676) hX dL_law_676 (fun r345 => ?_)
    refine sn_aload_n (y := m_L_law) (pc := 677) dL_law_677 rfl ?_
    refine sn_iload (y := m_L_law) (pc := 678) dL_law_678 rfl ?_
    refine sn_iconst (y := m_L_law) (pc := 680) dL_law_680 kc_iconst_4 ?_
    refine sn_iadd (y := m_L_law) (pc := 681) dL_law_681 ?_
    refine sn_sld (y := m_L_law) (pc := 682) hX dL_law_682 (fun r346 => ?_)
    refine sn_invV (y := m_L_law) (pc := 683) ca_8 (av := [vI r343, vI r344, vI r345, vI r346]) (o := x1) (st := []) dL_law_683 lk_L_64 im_X10_part se_X10_part rfl rfl rfl rfl ⟨by decide, by decide⟩ (c_X10_part cx.1 x1 r343 r344 r345 r346) (fun r347 => ?_)
    refine sn_aload_n (y := m_L_law) (pc := 686) dL_law_686 rfl ?_
    refine sn_aload_n (y := m_L_law) (pc := 687) dL_law_687 rfl ?_
    refine sn_iload (y := m_L_law) (pc := 688) dL_law_688 rfl ?_
    refine sn_iconst (y := m_L_law) (pc := 690) dL_law_690 kc_iconst_1 ?_
    refine sn_iadd (y := m_L_law) (pc := 691) dL_law_691 ?_
    refine sn_sld (y := m_L_law) (pc := 692) hX dL_law_692 (fun r348 => ?_)
    refine sn_aload_n (y := m_L_law) (pc := 693) dL_law_693 rfl ?_
    refine sn_iload (y := m_L_law) (pc := 694) dL_law_694 rfl ?_
    refine sn_iconst (y := m_L_law) (pc := 696) dL_law_696 kc_iconst_2 ?_
    refine sn_iadd (y := m_L_law) (pc := 697) dL_law_697 ?_
    refine sn_sld (y := m_L_law) (pc := 698) hX dL_law_698 (fun r349 => ?_)
    refine sn_aload_n (y := m_L_law) (pc := 699) dL_law_699 rfl ?_
    refine sn_iload (y := m_L_law) (pc := 700) dL_law_700 rfl ?_
    refine sn_iconst (y := m_L_law) (pc := 702) dL_law_702 kc_iconst_3 ?_
    refine sn_iadd (y := m_L_law) (pc := 703) dL_law_703 ?_
    refine sn_sld (y := m_L_law) (pc := 704) hX dL_law_704 (fun r350 => ?_)
    refine sn_aload_n (y := m_L_law) (pc := 705) dL_law_705 rfl ?_
    refine sn_iload (y := m_L_law) (pc := 706) dL_law_706 rfl ?_
    refine sn_iconst (y := m_L_law) (pc := 708) dL_law_708 kc_iconst_4 ?_
    refine sn_iadd (y := m_L_law) (pc := 709) dL_law_709 ?_
    refine sn_sld (y := m_L_law) (pc := 710) hX dL_law_710 (fun r351 => ?_)
    refine sn_invV (y := m_L_law) (pc := 711) ca_11 (av := [vI r348, vI r349, vI r350, vI r351]) (o := x2) (st := [vI r347]) dL_law_711 lk_L_67 im_X13_part se_X13_part rfl rfl rfl rfl ⟨by decide, by decide⟩ (c_X13_part cx.1 x2 r348 r349 r350 r351) (fun r352 => ?_)
    refine sn_icmp_eq (y := m_L_law) (pc := 714) (tgt := 1916) dL_law_714 (by decide) (fun _ => ?_) (fun _ => ?_)
    · refine sn_iinc (y := m_L_law) (pc := 1916) (v := x4 + 6) dL_law_1916 rfl (by rfl) rfl ?_
      refine sn_goto (y := m_L_law) (pc := 1919) (tgt := 23) dL_law_1919 (by decide) ?_
      exact sn_sub rfl (hk23 (x4 + 6))
    refine sn_iconst (y := m_L_law) (pc := 717) dL_law_717 kc_iconst_0 ?_
    exact sn_zreturnC (by decide) rfl dL_law_718
  refine sn_tabC (v := (11 : Int32)) (n := 11) (tgt := 719) (off := 679) dL_law_40 (by decide) (by decide) rfl (by decide) ?_ (fun h11 => ?_)
  · refine sn_aload_n (y := m_L_law) (pc := 719) dL_law_719 rfl ?_
    refine sn_aload_n (y := m_L_law) (pc := 720) dL_law_720 rfl ?_
    refine sn_iload (y := m_L_law) (pc := 721) dL_law_721 rfl ?_
    refine sn_iconst (y := m_L_law) (pc := 723) dL_law_723 kc_iconst_1 ?_
    refine sn_iadd (y := m_L_law) (pc := 724) dL_law_724 ?_
    refine sn_sld (y := m_L_law) (pc := 725) hX dL_law_725 (fun r353 => ?_)
    refine sn_aload_n (y := m_L_law) (pc := 726) dL_law_726 rfl ?_
    refine sn_iload (y := m_L_law) (pc := 727) dL_law_727 rfl ?_
    refine sn_iconst (y := m_L_law) (pc := 729) dL_law_729 kc_iconst_2 ?_
    refine sn_iadd (y := m_L_law) (pc := 730) dL_law_730 ?_
    refine sn_sld (y := m_L_law) (pc := 731) hX dL_law_731 (fun r354 => ?_)
    refine sn_aload_n (y := m_L_law) (pc := 732) dL_law_732 rfl ?_
    refine sn_iload (y := m_L_law) (pc := 733) dL_law_733 rfl ?_
    refine sn_iconst (y := m_L_law) (pc := 735) dL_law_735 kc_iconst_3 ?_
    refine sn_iadd (y := m_L_law) (pc := 736) dL_law_736 ?_
    refine sn_sld (y := m_L_law) (pc := 737) hX dL_law_737 (fun r355 => ?_)
    refine sn_aload_n (y := m_L_law) (pc := 738) dL_law_738 rfl ?_
    refine sn_iload (y := m_L_law) (pc := 739) dL_law_739 rfl ?_
    refine sn_iconst (y := m_L_law) (pc := 741) dL_law_741 kc_iconst_4 ?_
    refine sn_iadd (y := m_L_law) (pc := 742) dL_law_742 ?_
    refine sn_sld (y := m_L_law) (pc := 743) hX dL_law_743 (fun r356 => ?_)
    refine sn_invV (y := m_L_law) (pc := 744) ca_8 (av := [vI r353, vI r354, vI r355, vI r356]) (o := x1) (st := []) dL_law_744 lk_L_68 im_X10_law se_X10_law rfl rfl rfl rfl ⟨by decide, by decide⟩ (c_X10_law cx.1 x1 r353 r354 r355 r356) (fun r357 => ?_)
    refine sn_aload_n (y := m_L_law) (pc := 747) dL_law_747 rfl ?_
    refine sn_aload_n (y := m_L_law) (pc := 748) dL_law_748 rfl ?_
    refine sn_iload (y := m_L_law) (pc := 749) dL_law_749 rfl ?_
    refine sn_iconst (y := m_L_law) (pc := 751) dL_law_751 kc_iconst_1 ?_
    refine sn_iadd (y := m_L_law) (pc := 752) dL_law_752 ?_
    refine sn_sld (y := m_L_law) (pc := 753) hX dL_law_753 (fun r358 => ?_)
    refine sn_aload_n (y := m_L_law) (pc := 754) dL_law_754 rfl ?_
    refine sn_iload (y := m_L_law) (pc := 755) dL_law_755 rfl ?_
    refine sn_iconst (y := m_L_law) (pc := 757) dL_law_757 kc_iconst_2 ?_
    refine sn_iadd (y := m_L_law) (pc := 758) dL_law_758 ?_
    refine sn_sld (y := m_L_law) (pc := 759) hX dL_law_759 (fun r359 => ?_)
    refine sn_aload_n (y := m_L_law) (pc := 760) dL_law_760 rfl ?_
    refine sn_iload (y := m_L_law) (pc := 761) dL_law_761 rfl ?_
    refine sn_iconst (y := m_L_law) (pc := 763) dL_law_763 kc_iconst_3 ?_
    refine sn_iadd (y := m_L_law) (pc := 764) dL_law_764 ?_
    refine sn_sld (y := m_L_law) (pc := 765) hX dL_law_765 (fun r360 => ?_)
    refine sn_aload_n (y := m_L_law) (pc := 766) dL_law_766 rfl ?_
    refine sn_iload (y := m_L_law) (pc := 767) dL_law_767 rfl ?_
    refine sn_iconst (y := m_L_law) (pc := 769) dL_law_769 kc_iconst_4 ?_
    refine sn_iadd (y := m_L_law) (pc := 770) dL_law_770 ?_
    refine sn_sld (y := m_L_law) (pc := 771) hX dL_law_771 (fun r361 => ?_)
    refine sn_invV (y := m_L_law) (pc := 772) ca_11 (av := [vI r358, vI r359, vI r360, vI r361]) (o := x2) (st := [vI r357]) dL_law_772 lk_L_71 im_X13_law se_X13_law rfl rfl rfl rfl ⟨by decide, by decide⟩ (c_X13_law cx.1 x2 r358 r359 r360 r361) (fun r362 => ?_)
    refine sn_icmp_eq (y := m_L_law) (pc := 775) (tgt := 1916) dL_law_775 (by decide) (fun _ => ?_) (fun _ => ?_)
    · refine sn_iinc (y := m_L_law) (pc := 1916) (v := x4 + 6) dL_law_1916 rfl (by rfl) rfl ?_
      refine sn_goto (y := m_L_law) (pc := 1919) (tgt := 23) dL_law_1919 (by decide) ?_
      exact sn_sub rfl (hk23 (x4 + 6))
    refine sn_iconst (y := m_L_law) (pc := 778) dL_law_778 kc_iconst_0 ?_
    exact sn_zreturnC (by decide) rfl dL_law_779
  refine sn_tabC (v := (12 : Int32)) (n := 12) (tgt := 780) (off := 740) dL_law_40 (by decide) (by decide) rfl (by decide) ?_ (fun h12 => ?_)
  · refine sn_aload_n (y := m_L_law) (pc := 780) dL_law_780 rfl ?_
    refine sn_aload_n (y := m_L_law) (pc := 781) dL_law_781 rfl ?_
    refine sn_iload (y := m_L_law) (pc := 782) dL_law_782 rfl ?_
    refine sn_iconst (y := m_L_law) (pc := 784) dL_law_784 kc_iconst_1 ?_
    refine sn_iadd (y := m_L_law) (pc := 785) dL_law_785 ?_
    refine sn_sld (y := m_L_law) (pc := 786) hX dL_law_786 (fun r363 => ?_)
    refine sn_aload_n (y := m_L_law) (pc := 787) dL_law_787 rfl ?_
    refine sn_iload (y := m_L_law) (pc := 788) dL_law_788 rfl ?_
    refine sn_iconst (y := m_L_law) (pc := 790) dL_law_790 kc_iconst_2 ?_
    refine sn_iadd (y := m_L_law) (pc := 791) dL_law_791 ?_
    refine sn_sld (y := m_L_law) (pc := 792) hX dL_law_792 (fun r364 => ?_)
    refine sn_aload_n (y := m_L_law) (pc := 793) dL_law_793 rfl ?_
    refine sn_iload (y := m_L_law) (pc := 794) dL_law_794 rfl ?_
    refine sn_iconst (y := m_L_law) (pc := 796) dL_law_796 kc_iconst_3 ?_
    refine sn_iadd (y := m_L_law) (pc := 797) dL_law_797 ?_
    refine sn_sld (y := m_L_law) (pc := 798) hX dL_law_798 (fun r365 => ?_)
    refine sn_invV (y := m_L_law) (pc := 799) ca_8 (av := [vI r363, vI r364, vI r365]) (o := x1) (st := []) dL_law_799 lk_L_72 im_X10_parts se_X10_parts rfl rfl rfl rfl ⟨by decide, by decide⟩ (c_X10_parts cx.1 x1 r363 r364 r365) (fun r366 => ?_)
    refine sn_aload_n (y := m_L_law) (pc := 802) dL_law_802 rfl ?_
    refine sn_aload_n (y := m_L_law) (pc := 803) dL_law_803 rfl ?_
    refine sn_iload (y := m_L_law) (pc := 804) dL_law_804 rfl ?_
    refine sn_iconst (y := m_L_law) (pc := 806) dL_law_806 kc_iconst_1 ?_
    refine sn_iadd (y := m_L_law) (pc := 807) dL_law_807 ?_
    refine sn_sld (y := m_L_law) (pc := 808) hX dL_law_808 (fun r367 => ?_)
    refine sn_aload_n (y := m_L_law) (pc := 809) dL_law_809 rfl ?_
    refine sn_iload (y := m_L_law) (pc := 810) dL_law_810 rfl ?_
    refine sn_iconst (y := m_L_law) (pc := 812) dL_law_812 kc_iconst_2 ?_
    refine sn_iadd (y := m_L_law) (pc := 813) dL_law_813 ?_
    refine sn_sld (y := m_L_law) (pc := 814) hX dL_law_814 (fun r368 => ?_)
    refine sn_aload_n (y := m_L_law) (pc := 815) dL_law_815 rfl ?_
    refine sn_iload (y := m_L_law) (pc := 816) dL_law_816 rfl ?_
    refine sn_iconst (y := m_L_law) (pc := 818) dL_law_818 kc_iconst_3 ?_
    refine sn_iadd (y := m_L_law) (pc := 819) dL_law_819 ?_
    refine sn_sld (y := m_L_law) (pc := 820) hX dL_law_820 (fun r369 => ?_)
    refine sn_invV (y := m_L_law) (pc := 821) ca_11 (av := [vI r367, vI r368, vI r369]) (o := x2) (st := [vI r366]) dL_law_821 lk_L_75 im_X13_parts se_X13_parts rfl rfl rfl rfl ⟨by decide, by decide⟩ (c_X13_parts cx.1 x2 r367 r368 r369) (fun r370 => ?_)
    refine sn_icmp_eq (y := m_L_law) (pc := 824) (tgt := 1916) dL_law_824 (by decide) (fun _ => ?_) (fun _ => ?_)
    · refine sn_iinc (y := m_L_law) (pc := 1916) (v := x4 + 6) dL_law_1916 rfl (by rfl) rfl ?_
      refine sn_goto (y := m_L_law) (pc := 1919) (tgt := 23) dL_law_1919 (by decide) ?_
      exact sn_sub rfl (hk23 (x4 + 6))
    refine sn_iconst (y := m_L_law) (pc := 827) dL_law_827 kc_iconst_0 ?_
    exact sn_zreturnC (by decide) rfl dL_law_828
  refine sn_tabC (v := (13 : Int32)) (n := 13) (tgt := 829) (off := 789) dL_law_40 (by decide) (by decide) rfl (by decide) ?_ (fun h13 => ?_)
  · refine sn_aload_n (y := m_L_law) (pc := 829) dL_law_829 rfl ?_
    refine sn_aload_n (y := m_L_law) (pc := 830) dL_law_830 rfl ?_
    refine sn_iload (y := m_L_law) (pc := 831) dL_law_831 rfl ?_
    refine sn_iconst (y := m_L_law) (pc := 833) dL_law_833 kc_iconst_1 ?_
    refine sn_iadd (y := m_L_law) (pc := 834) dL_law_834 ?_
    refine sn_sld (y := m_L_law) (pc := 835) hX dL_law_835 (fun r371 => ?_)
    refine sn_aload_n (y := m_L_law) (pc := 836) dL_law_836 rfl ?_
    refine sn_iload (y := m_L_law) (pc := 837) dL_law_837 rfl ?_
    refine sn_iconst (y := m_L_law) (pc := 839) dL_law_839 kc_iconst_2 ?_
    refine sn_iadd (y := m_L_law) (pc := 840) dL_law_840 ?_
    refine sn_sld (y := m_L_law) (pc := 841) hX dL_law_841 (fun r372 => ?_)
    refine sn_invV (y := m_L_law) (pc := 842) ca_8 (av := [vI r371, vI r372]) (o := x1) (st := []) dL_law_842 lk_L_76 im_X10_let se_X10_let rfl rfl rfl rfl ⟨by decide, by decide⟩ (c_X10_let cx.1 x1 r371 r372) (fun r373 => ?_)
    refine sn_aload_n (y := m_L_law) (pc := 845) dL_law_845 rfl ?_
    refine sn_aload_n (y := m_L_law) (pc := 846) dL_law_846 rfl ?_
    refine sn_iload (y := m_L_law) (pc := 847) dL_law_847 rfl ?_
    refine sn_iconst (y := m_L_law) (pc := 849) dL_law_849 kc_iconst_1 ?_
    refine sn_iadd (y := m_L_law) (pc := 850) dL_law_850 ?_
    refine sn_sld (y := m_L_law) (pc := 851) hX dL_law_851 (fun r374 => ?_)
    refine sn_aload_n (y := m_L_law) (pc := 852) dL_law_852 rfl ?_
    refine sn_iload (y := m_L_law) (pc := 853) dL_law_853 rfl ?_
    refine sn_iconst (y := m_L_law) (pc := 855) dL_law_855 kc_iconst_2 ?_
    refine sn_iadd (y := m_L_law) (pc := 856) dL_law_856 ?_
    refine sn_sld (y := m_L_law) (pc := 857) hX dL_law_857 (fun r375 => ?_)
    refine sn_invV (y := m_L_law) (pc := 858) ca_11 (av := [vI r374, vI r375]) (o := x2) (st := [vI r373]) dL_law_858 lk_L_79 im_X13_let se_X13_let rfl rfl rfl rfl ⟨by decide, by decide⟩ (c_X13_let cx.1 x2 r374 r375) (fun r376 => ?_)
    refine sn_icmp_eq (y := m_L_law) (pc := 861) (tgt := 1916) dL_law_861 (by decide) (fun _ => ?_) (fun _ => ?_)
    · refine sn_iinc (y := m_L_law) (pc := 1916) (v := x4 + 6) dL_law_1916 rfl (by rfl) rfl ?_
      refine sn_goto (y := m_L_law) (pc := 1919) (tgt := 23) dL_law_1919 (by decide) ?_
      exact sn_sub rfl (hk23 (x4 + 6))
    refine sn_iconst (y := m_L_law) (pc := 864) dL_law_864 kc_iconst_0 ?_
    exact sn_zreturnC (by decide) rfl dL_law_865
  refine sn_tabC (v := (14 : Int32)) (n := 14) (tgt := 866) (off := 826) dL_law_40 (by decide) (by decide) rfl (by decide) ?_ (fun h14 => ?_)
  · refine sn_aload_n (y := m_L_law) (pc := 866) dL_law_866 rfl ?_
    refine sn_aload_n (y := m_L_law) (pc := 867) dL_law_867 rfl ?_
    refine sn_iload (y := m_L_law) (pc := 868) dL_law_868 rfl ?_
    refine sn_iconst (y := m_L_law) (pc := 870) dL_law_870 kc_iconst_1 ?_
    refine sn_iadd (y := m_L_law) (pc := 871) dL_law_871 ?_
    refine sn_sld (y := m_L_law) (pc := 872) hX dL_law_872 (fun r377 => ?_)
    refine sn_invV (y := m_L_law) (pc := 873) ca_8 (av := [vI r377]) (o := x1) (st := []) dL_law_873 lk_L_80 im_X10_letField se_X10_letField rfl rfl rfl rfl ⟨by decide, by decide⟩ (c_X10_letField cx.1 x1 r377) (fun r378 => ?_)
    refine sn_aload_n (y := m_L_law) (pc := 876) dL_law_876 rfl ?_
    refine sn_aload_n (y := m_L_law) (pc := 877) dL_law_877 rfl ?_
    refine sn_iload (y := m_L_law) (pc := 878) dL_law_878 rfl ?_
    refine sn_iconst (y := m_L_law) (pc := 880) dL_law_880 kc_iconst_1 ?_
    refine sn_iadd (y := m_L_law) (pc := 881) dL_law_881 ?_
    refine sn_sld (y := m_L_law) (pc := 882) hX dL_law_882 (fun r379 => ?_)
    refine sn_invV (y := m_L_law) (pc := 883) ca_11 (av := [vI r379]) (o := x2) (st := [vI r378]) dL_law_883 lk_L_83 im_X13_letField se_X13_letField rfl rfl rfl rfl ⟨by decide, by decide⟩ (c_X13_letField cx.1 x2 r379) (fun r380 => ?_)
    refine sn_icmp_eq (y := m_L_law) (pc := 886) (tgt := 1916) dL_law_886 (by decide) (fun _ => ?_) (fun _ => ?_)
    · refine sn_iinc (y := m_L_law) (pc := 1916) (v := x4 + 6) dL_law_1916 rfl (by rfl) rfl ?_
      refine sn_goto (y := m_L_law) (pc := 1919) (tgt := 23) dL_law_1919 (by decide) ?_
      exact sn_sub rfl (hk23 (x4 + 6))
    refine sn_iconst (y := m_L_law) (pc := 889) dL_law_889 kc_iconst_0 ?_
    exact sn_zreturnC (by decide) rfl dL_law_890
  refine sn_tabC (v := (15 : Int32)) (n := 15) (tgt := 891) (off := 851) dL_law_40 (by decide) (by decide) rfl (by decide) ?_ (fun h15 => ?_)
  · refine sn_aload_n (y := m_L_law) (pc := 891) dL_law_891 rfl ?_
    refine sn_aload_n (y := m_L_law) (pc := 892) dL_law_892 rfl ?_
    refine sn_iload (y := m_L_law) (pc := 893) dL_law_893 rfl ?_
    refine sn_iconst (y := m_L_law) (pc := 895) dL_law_895 kc_iconst_1 ?_
    refine sn_iadd (y := m_L_law) (pc := 896) dL_law_896 ?_
    refine sn_sld (y := m_L_law) (pc := 897) hX dL_law_897 (fun r381 => ?_)
    refine sn_aload_n (y := m_L_law) (pc := 898) dL_law_898 rfl ?_
    refine sn_iload (y := m_L_law) (pc := 899) dL_law_899 rfl ?_
    refine sn_iconst (y := m_L_law) (pc := 901) dL_law_901 kc_iconst_2 ?_
    refine sn_iadd (y := m_L_law) (pc := 902) dL_law_902 ?_
    refine sn_sld (y := m_L_law) (pc := 903) hX dL_law_903 (fun r382 => ?_)
    refine sn_invV (y := m_L_law) (pc := 904) ca_8 (av := [vI r381, vI r382]) (o := x1) (st := []) dL_law_904 lk_L_84 im_X10_letPart se_X10_letPart rfl rfl rfl rfl ⟨by decide, by decide⟩ (c_X10_letPart cx.1 x1 r381 r382) (fun r383 => ?_)
    refine sn_aload_n (y := m_L_law) (pc := 907) dL_law_907 rfl ?_
    refine sn_aload_n (y := m_L_law) (pc := 908) dL_law_908 rfl ?_
    refine sn_iload (y := m_L_law) (pc := 909) dL_law_909 rfl ?_
    refine sn_iconst (y := m_L_law) (pc := 911) dL_law_911 kc_iconst_1 ?_
    refine sn_iadd (y := m_L_law) (pc := 912) dL_law_912 ?_
    refine sn_sld (y := m_L_law) (pc := 913) hX dL_law_913 (fun r384 => ?_)
    refine sn_aload_n (y := m_L_law) (pc := 914) dL_law_914 rfl ?_
    refine sn_iload (y := m_L_law) (pc := 915) dL_law_915 rfl ?_
    refine sn_iconst (y := m_L_law) (pc := 917) dL_law_917 kc_iconst_2 ?_
    refine sn_iadd (y := m_L_law) (pc := 918) dL_law_918 ?_
    refine sn_sld (y := m_L_law) (pc := 919) hX dL_law_919 (fun r385 => ?_)
    refine sn_invV (y := m_L_law) (pc := 920) ca_11 (av := [vI r384, vI r385]) (o := x2) (st := [vI r383]) dL_law_920 lk_L_87 im_X13_letPart se_X13_letPart rfl rfl rfl rfl ⟨by decide, by decide⟩ (c_X13_letPart cx.1 x2 r384 r385) (fun r386 => ?_)
    refine sn_icmp_eq (y := m_L_law) (pc := 923) (tgt := 1916) dL_law_923 (by decide) (fun _ => ?_) (fun _ => ?_)
    · refine sn_iinc (y := m_L_law) (pc := 1916) (v := x4 + 6) dL_law_1916 rfl (by rfl) rfl ?_
      refine sn_goto (y := m_L_law) (pc := 1919) (tgt := 23) dL_law_1919 (by decide) ?_
      exact sn_sub rfl (hk23 (x4 + 6))
    refine sn_iconst (y := m_L_law) (pc := 926) dL_law_926 kc_iconst_0 ?_
    exact sn_zreturnC (by decide) rfl dL_law_927
  refine sn_tabC (v := (16 : Int32)) (n := 16) (tgt := 928) (off := 888) dL_law_40 (by decide) (by decide) rfl (by decide) ?_ (fun h16 => ?_)
  · refine sn_aload_n (y := m_L_law) (pc := 928) dL_law_928 rfl ?_
    refine sn_aload_n (y := m_L_law) (pc := 929) dL_law_929 rfl ?_
    refine sn_iload (y := m_L_law) (pc := 930) dL_law_930 rfl ?_
    refine sn_iconst (y := m_L_law) (pc := 932) dL_law_932 kc_iconst_1 ?_
    refine sn_iadd (y := m_L_law) (pc := 933) dL_law_933 ?_
    refine sn_sld (y := m_L_law) (pc := 934) hX dL_law_934 (fun r387 => ?_)
    refine sn_invV (y := m_L_law) (pc := 935) ca_8 (av := [vI r387]) (o := x1) (st := []) dL_law_935 lk_L_88 im_X10_whole se_X10_whole rfl rfl rfl rfl ⟨by decide, by decide⟩ (c_X10_whole cx.1 x1 r387) (fun r388 => ?_)
    refine sn_aload_n (y := m_L_law) (pc := 938) dL_law_938 rfl ?_
    refine sn_aload_n (y := m_L_law) (pc := 939) dL_law_939 rfl ?_
    refine sn_iload (y := m_L_law) (pc := 940) dL_law_940 rfl ?_
    refine sn_iconst (y := m_L_law) (pc := 942) dL_law_942 kc_iconst_1 ?_
    refine sn_iadd (y := m_L_law) (pc := 943) dL_law_943 ?_
    refine sn_sld (y := m_L_law) (pc := 944) hX dL_law_944 (fun r389 => ?_)
    refine sn_invV (y := m_L_law) (pc := 945) ca_11 (av := [vI r389]) (o := x2) (st := [vI r388]) dL_law_945 lk_L_91 im_X13_whole se_X13_whole rfl rfl rfl rfl ⟨by decide, by decide⟩ (c_X13_whole cx.1 x2 r389) (fun r390 => ?_)
    refine sn_icmp_eq (y := m_L_law) (pc := 948) (tgt := 1916) dL_law_948 (by decide) (fun _ => ?_) (fun _ => ?_)
    · refine sn_iinc (y := m_L_law) (pc := 1916) (v := x4 + 6) dL_law_1916 rfl (by rfl) rfl ?_
      refine sn_goto (y := m_L_law) (pc := 1919) (tgt := 23) dL_law_1919 (by decide) ?_
      exact sn_sub rfl (hk23 (x4 + 6))
    refine sn_iconst (y := m_L_law) (pc := 951) dL_law_951 kc_iconst_0 ?_
    exact sn_zreturnC (by decide) rfl dL_law_952
  refine sn_tabC (v := (17 : Int32)) (n := 17) (tgt := 953) (off := 913) dL_law_40 (by decide) (by decide) rfl (by decide) ?_ (fun h17 => ?_)
  · refine sn_aload_n (y := m_L_law) (pc := 953) dL_law_953 rfl ?_
    refine sn_aload_n (y := m_L_law) (pc := 954) dL_law_954 rfl ?_
    refine sn_iload (y := m_L_law) (pc := 955) dL_law_955 rfl ?_
    refine sn_iconst (y := m_L_law) (pc := 957) dL_law_957 kc_iconst_1 ?_
    refine sn_iadd (y := m_L_law) (pc := 958) dL_law_958 ?_
    refine sn_sld (y := m_L_law) (pc := 959) hX dL_law_959 (fun r391 => ?_)
    refine sn_invV (y := m_L_law) (pc := 960) ca_8 (av := [vI r391]) (o := x1) (st := []) dL_law_960 lk_L_92 im_X10_count se_X10_count rfl rfl rfl rfl ⟨by decide, by decide⟩ (c_X10_count cx.1 x1 r391) (fun r392 => ?_)
    refine sn_aload_n (y := m_L_law) (pc := 963) dL_law_963 rfl ?_
    refine sn_aload_n (y := m_L_law) (pc := 964) dL_law_964 rfl ?_
    refine sn_iload (y := m_L_law) (pc := 965) dL_law_965 rfl ?_
    refine sn_iconst (y := m_L_law) (pc := 967) dL_law_967 kc_iconst_1 ?_
    refine sn_iadd (y := m_L_law) (pc := 968) dL_law_968 ?_
    refine sn_sld (y := m_L_law) (pc := 969) hX dL_law_969 (fun r393 => ?_)
    refine sn_invV (y := m_L_law) (pc := 970) ca_11 (av := [vI r393]) (o := x2) (st := [vI r392]) dL_law_970 lk_L_95 im_X13_count se_X13_count rfl rfl rfl rfl ⟨by decide, by decide⟩ (c_X13_count cx.1 x2 r393) (fun r394 => ?_)
    refine sn_icmp_eq (y := m_L_law) (pc := 973) (tgt := 1916) dL_law_973 (by decide) (fun _ => ?_) (fun _ => ?_)
    · refine sn_iinc (y := m_L_law) (pc := 1916) (v := x4 + 6) dL_law_1916 rfl (by rfl) rfl ?_
      refine sn_goto (y := m_L_law) (pc := 1919) (tgt := 23) dL_law_1919 (by decide) ?_
      exact sn_sub rfl (hk23 (x4 + 6))
    refine sn_iconst (y := m_L_law) (pc := 976) dL_law_976 kc_iconst_0 ?_
    exact sn_zreturnC (by decide) rfl dL_law_977
  refine sn_tabC (v := (18 : Int32)) (n := 18) (tgt := 978) (off := 938) dL_law_40 (by decide) (by decide) rfl (by decide) ?_ (fun h18 => ?_)
  · refine sn_aload_n (y := m_L_law) (pc := 978) dL_law_978 rfl ?_
    refine sn_aload_n (y := m_L_law) (pc := 979) dL_law_979 rfl ?_
    refine sn_iload (y := m_L_law) (pc := 980) dL_law_980 rfl ?_
    refine sn_iconst (y := m_L_law) (pc := 982) dL_law_982 kc_iconst_1 ?_
    refine sn_iadd (y := m_L_law) (pc := 983) dL_law_983 ?_
    refine sn_sld (y := m_L_law) (pc := 984) hX dL_law_984 (fun r395 => ?_)
    refine sn_aload_n (y := m_L_law) (pc := 985) dL_law_985 rfl ?_
    refine sn_iload (y := m_L_law) (pc := 986) dL_law_986 rfl ?_
    refine sn_iconst (y := m_L_law) (pc := 988) dL_law_988 kc_iconst_2 ?_
    refine sn_iadd (y := m_L_law) (pc := 989) dL_law_989 ?_
    refine sn_sld (y := m_L_law) (pc := 990) hX dL_law_990 (fun r396 => ?_)
    refine sn_invV (y := m_L_law) (pc := 991) ca_8 (av := [vI r395, vI r396]) (o := x1) (st := []) dL_law_991 lk_L_96 im_X10_countOf se_X10_countOf rfl rfl rfl rfl ⟨by decide, by decide⟩ (c_X10_countOf cx.1 x1 r395 r396) (fun r397 => ?_)
    refine sn_aload_n (y := m_L_law) (pc := 994) dL_law_994 rfl ?_
    refine sn_aload_n (y := m_L_law) (pc := 995) dL_law_995 rfl ?_
    refine sn_iload (y := m_L_law) (pc := 996) dL_law_996 rfl ?_
    refine sn_iconst (y := m_L_law) (pc := 998) dL_law_998 kc_iconst_1 ?_
    refine sn_iadd (y := m_L_law) (pc := 999) dL_law_999 ?_
    refine sn_sld (y := m_L_law) (pc := 1000) hX dL_law_1000 (fun r398 => ?_)
    refine sn_aload_n (y := m_L_law) (pc := 1001) dL_law_1001 rfl ?_
    refine sn_iload (y := m_L_law) (pc := 1002) dL_law_1002 rfl ?_
    refine sn_iconst (y := m_L_law) (pc := 1004) dL_law_1004 kc_iconst_2 ?_
    refine sn_iadd (y := m_L_law) (pc := 1005) dL_law_1005 ?_
    refine sn_sld (y := m_L_law) (pc := 1006) hX dL_law_1006 (fun r399 => ?_)
    refine sn_invV (y := m_L_law) (pc := 1007) ca_11 (av := [vI r398, vI r399]) (o := x2) (st := [vI r397]) dL_law_1007 lk_L_99 im_X13_countOf se_X13_countOf rfl rfl rfl rfl ⟨by decide, by decide⟩ (c_X13_countOf cx.1 x2 r398 r399) (fun r400 => ?_)
    refine sn_icmp_eq (y := m_L_law) (pc := 1010) (tgt := 1916) dL_law_1010 (by decide) (fun _ => ?_) (fun _ => ?_)
    · refine sn_iinc (y := m_L_law) (pc := 1916) (v := x4 + 6) dL_law_1916 rfl (by rfl) rfl ?_
      refine sn_goto (y := m_L_law) (pc := 1919) (tgt := 23) dL_law_1919 (by decide) ?_
      exact sn_sub rfl (hk23 (x4 + 6))
    refine sn_iconst (y := m_L_law) (pc := 1013) dL_law_1013 kc_iconst_0 ?_
    exact sn_zreturnC (by decide) rfl dL_law_1014
  refine sn_tabC (v := (19 : Int32)) (n := 19) (tgt := 1015) (off := 975) dL_law_40 (by decide) (by decide) rfl (by decide) ?_ (fun h19 => ?_)
  · refine sn_aload_n (y := m_L_law) (pc := 1015) dL_law_1015 rfl ?_
    refine sn_aload_n (y := m_L_law) (pc := 1016) dL_law_1016 rfl ?_
    refine sn_iload (y := m_L_law) (pc := 1017) dL_law_1017 rfl ?_
    refine sn_iconst (y := m_L_law) (pc := 1019) dL_law_1019 kc_iconst_1 ?_
    refine sn_iadd (y := m_L_law) (pc := 1020) dL_law_1020 ?_
    refine sn_sld (y := m_L_law) (pc := 1021) hX dL_law_1021 (fun r401 => ?_)
    refine sn_aload_n (y := m_L_law) (pc := 1022) dL_law_1022 rfl ?_
    refine sn_iload (y := m_L_law) (pc := 1023) dL_law_1023 rfl ?_
    refine sn_iconst (y := m_L_law) (pc := 1025) dL_law_1025 kc_iconst_2 ?_
    refine sn_iadd (y := m_L_law) (pc := 1026) dL_law_1026 ?_
    refine sn_sld (y := m_L_law) (pc := 1027) hX dL_law_1027 (fun r402 => ?_)
    refine sn_invV (y := m_L_law) (pc := 1028) ca_8 (av := [vI r401, vI r402]) (o := x1) (st := []) dL_law_1028 lk_L_100 im_X10_curve se_X10_curve rfl rfl rfl rfl ⟨by decide, by decide⟩ (c_X10_curve cx.1 x1 r401 r402) (fun r403 => ?_)
    refine sn_aload_n (y := m_L_law) (pc := 1031) dL_law_1031 rfl ?_
    refine sn_aload_n (y := m_L_law) (pc := 1032) dL_law_1032 rfl ?_
    refine sn_iload (y := m_L_law) (pc := 1033) dL_law_1033 rfl ?_
    refine sn_iconst (y := m_L_law) (pc := 1035) dL_law_1035 kc_iconst_1 ?_
    refine sn_iadd (y := m_L_law) (pc := 1036) dL_law_1036 ?_
    refine sn_sld (y := m_L_law) (pc := 1037) hX dL_law_1037 (fun r404 => ?_)
    refine sn_aload_n (y := m_L_law) (pc := 1038) dL_law_1038 rfl ?_
    refine sn_iload (y := m_L_law) (pc := 1039) dL_law_1039 rfl ?_
    refine sn_iconst (y := m_L_law) (pc := 1041) dL_law_1041 kc_iconst_2 ?_
    refine sn_iadd (y := m_L_law) (pc := 1042) dL_law_1042 ?_
    refine sn_sld (y := m_L_law) (pc := 1043) hX dL_law_1043 (fun r405 => ?_)
    refine sn_invV (y := m_L_law) (pc := 1044) ca_11 (av := [vI r404, vI r405]) (o := x2) (st := [vJ r403]) dL_law_1044 lk_L_104 im_X13_curve se_X13_curve rfl rfl rfl rfl ⟨by decide, by decide⟩ (c_X13_curve cx.1 x2 r404 r405) (fun r406 => ?_)
    refine sn_lc_eq (y := m_L_law) (pc := 1047) (tgt := 1916) dL_law_1047 dL_law_1048 (by decide) (fun _ => ?_) (fun _ => ?_)
    · refine sn_iinc (y := m_L_law) (pc := 1916) (v := x4 + 6) dL_law_1916 rfl (by rfl) rfl ?_
      refine sn_goto (y := m_L_law) (pc := 1919) (tgt := 23) dL_law_1919 (by decide) ?_
      exact sn_sub rfl (hk23 (x4 + 6))
    refine sn_iconst (y := m_L_law) (pc := 1051) dL_law_1051 kc_iconst_0 ?_
    exact sn_zreturnC (by decide) rfl dL_law_1052
  refine sn_tabC (v := (20 : Int32)) (n := 20) (tgt := 1053) (off := 1013) dL_law_40 (by decide) (by decide) rfl (by decide) ?_ (fun h20 => ?_)
  · refine sn_aload_n (y := m_L_law) (pc := 1053) dL_law_1053 rfl ?_
    refine sn_aload_n (y := m_L_law) (pc := 1054) dL_law_1054 rfl ?_
    refine sn_iload (y := m_L_law) (pc := 1055) dL_law_1055 rfl ?_
    refine sn_iconst (y := m_L_law) (pc := 1057) dL_law_1057 kc_iconst_1 ?_
    refine sn_iadd (y := m_L_law) (pc := 1058) dL_law_1058 ?_
    refine sn_sld (y := m_L_law) (pc := 1059) hX dL_law_1059 (fun r407 => ?_)
    refine sn_aload_n (y := m_L_law) (pc := 1060) dL_law_1060 rfl ?_
    refine sn_iload (y := m_L_law) (pc := 1061) dL_law_1061 rfl ?_
    refine sn_iconst (y := m_L_law) (pc := 1063) dL_law_1063 kc_iconst_2 ?_
    refine sn_iadd (y := m_L_law) (pc := 1064) dL_law_1064 ?_
    refine sn_sld (y := m_L_law) (pc := 1065) hX dL_law_1065 (fun r408 => ?_)
    refine sn_invV (y := m_L_law) (pc := 1066) ca_8 (av := [vI r407, vI r408]) (o := x1) (st := []) dL_law_1066 lk_L_105 im_X10_sign se_X10_sign rfl rfl rfl rfl ⟨by decide, by decide⟩ (c_X10_sign cx.1 x1 r407 r408) (fun r409 => ?_)
    refine sn_aload_n (y := m_L_law) (pc := 1069) dL_law_1069 rfl ?_
    refine sn_aload_n (y := m_L_law) (pc := 1070) dL_law_1070 rfl ?_
    refine sn_iload (y := m_L_law) (pc := 1071) dL_law_1071 rfl ?_
    refine sn_iconst (y := m_L_law) (pc := 1073) dL_law_1073 kc_iconst_1 ?_
    refine sn_iadd (y := m_L_law) (pc := 1074) dL_law_1074 ?_
    refine sn_sld (y := m_L_law) (pc := 1075) hX dL_law_1075 (fun r410 => ?_)
    refine sn_aload_n (y := m_L_law) (pc := 1076) dL_law_1076 rfl ?_
    refine sn_iload (y := m_L_law) (pc := 1077) dL_law_1077 rfl ?_
    refine sn_iconst (y := m_L_law) (pc := 1079) dL_law_1079 kc_iconst_2 ?_
    refine sn_iadd (y := m_L_law) (pc := 1080) dL_law_1080 ?_
    refine sn_sld (y := m_L_law) (pc := 1081) hX dL_law_1081 (fun r411 => ?_)
    refine sn_invV (y := m_L_law) (pc := 1082) ca_11 (av := [vI r410, vI r411]) (o := x2) (st := [vI r409]) dL_law_1082 lk_L_108 im_X13_sign se_X13_sign rfl rfl rfl rfl ⟨by decide, by decide⟩ (c_X13_sign cx.1 x2 r410 r411) (fun r412 => ?_)
    refine sn_icmp_eq (y := m_L_law) (pc := 1085) (tgt := 1916) dL_law_1085 (by decide) (fun _ => ?_) (fun _ => ?_)
    · refine sn_iinc (y := m_L_law) (pc := 1916) (v := x4 + 6) dL_law_1916 rfl (by rfl) rfl ?_
      refine sn_goto (y := m_L_law) (pc := 1919) (tgt := 23) dL_law_1919 (by decide) ?_
      exact sn_sub rfl (hk23 (x4 + 6))
    refine sn_iconst (y := m_L_law) (pc := 1088) dL_law_1088 kc_iconst_0 ?_
    exact sn_zreturnC (by decide) rfl dL_law_1089
  refine sn_tabC (v := (21 : Int32)) (n := 21) (tgt := 1090) (off := 1050) dL_law_40 (by decide) (by decide) rfl (by decide) ?_ (fun h21 => ?_)
  · refine sn_aload_n (y := m_L_law) (pc := 1090) dL_law_1090 rfl ?_
    refine sn_aload_n (y := m_L_law) (pc := 1091) dL_law_1091 rfl ?_
    refine sn_iload (y := m_L_law) (pc := 1092) dL_law_1092 rfl ?_
    refine sn_iconst (y := m_L_law) (pc := 1094) dL_law_1094 kc_iconst_1 ?_
    refine sn_iadd (y := m_L_law) (pc := 1095) dL_law_1095 ?_
    refine sn_sld (y := m_L_law) (pc := 1096) hX dL_law_1096 (fun r413 => ?_)
    refine sn_aload_n (y := m_L_law) (pc := 1097) dL_law_1097 rfl ?_
    refine sn_iload (y := m_L_law) (pc := 1098) dL_law_1098 rfl ?_
    refine sn_iconst (y := m_L_law) (pc := 1100) dL_law_1100 kc_iconst_2 ?_
    refine sn_iadd (y := m_L_law) (pc := 1101) dL_law_1101 ?_
    refine sn_sld (y := m_L_law) (pc := 1102) hX dL_law_1102 (fun r414 => ?_)
    refine sn_invV (y := m_L_law) (pc := 1103) ca_8 (av := [vI r413, vI r414]) (o := x1) (st := []) dL_law_1103 lk_L_109 im_X10_both se_X10_both rfl rfl rfl rfl ⟨by decide, by decide⟩ (c_X10_both cx.1 x1 r413 r414) (fun r415 => ?_)
    refine sn_aload_n (y := m_L_law) (pc := 1106) dL_law_1106 rfl ?_
    refine sn_aload_n (y := m_L_law) (pc := 1107) dL_law_1107 rfl ?_
    refine sn_iload (y := m_L_law) (pc := 1108) dL_law_1108 rfl ?_
    refine sn_iconst (y := m_L_law) (pc := 1110) dL_law_1110 kc_iconst_1 ?_
    refine sn_iadd (y := m_L_law) (pc := 1111) dL_law_1111 ?_
    refine sn_sld (y := m_L_law) (pc := 1112) hX dL_law_1112 (fun r416 => ?_)
    refine sn_aload_n (y := m_L_law) (pc := 1113) dL_law_1113 rfl ?_
    refine sn_iload (y := m_L_law) (pc := 1114) dL_law_1114 rfl ?_
    refine sn_iconst (y := m_L_law) (pc := 1116) dL_law_1116 kc_iconst_2 ?_
    refine sn_iadd (y := m_L_law) (pc := 1117) dL_law_1117 ?_
    refine sn_sld (y := m_L_law) (pc := 1118) hX dL_law_1118 (fun r417 => ?_)
    refine sn_invV (y := m_L_law) (pc := 1119) ca_11 (av := [vI r416, vI r417]) (o := x2) (st := [vI r415]) dL_law_1119 lk_L_112 im_X13_both se_X13_both rfl rfl rfl rfl ⟨by decide, by decide⟩ (c_X13_both cx.1 x2 r416 r417) (fun r418 => ?_)
    refine sn_icmp_eq (y := m_L_law) (pc := 1122) (tgt := 1916) dL_law_1122 (by decide) (fun _ => ?_) (fun _ => ?_)
    · refine sn_iinc (y := m_L_law) (pc := 1916) (v := x4 + 6) dL_law_1916 rfl (by rfl) rfl ?_
      refine sn_goto (y := m_L_law) (pc := 1919) (tgt := 23) dL_law_1919 (by decide) ?_
      exact sn_sub rfl (hk23 (x4 + 6))
    refine sn_iconst (y := m_L_law) (pc := 1125) dL_law_1125 kc_iconst_0 ?_
    exact sn_zreturnC (by decide) rfl dL_law_1126
  refine sn_tabC (v := (22 : Int32)) (n := 22) (tgt := 1127) (off := 1087) dL_law_40 (by decide) (by decide) rfl (by decide) ?_ (fun h22 => ?_)
  · refine sn_aload_n (y := m_L_law) (pc := 1127) dL_law_1127 rfl ?_
    refine sn_aload_n (y := m_L_law) (pc := 1128) dL_law_1128 rfl ?_
    refine sn_iload (y := m_L_law) (pc := 1129) dL_law_1129 rfl ?_
    refine sn_iconst (y := m_L_law) (pc := 1131) dL_law_1131 kc_iconst_1 ?_
    refine sn_iadd (y := m_L_law) (pc := 1132) dL_law_1132 ?_
    refine sn_sld (y := m_L_law) (pc := 1133) hX dL_law_1133 (fun r419 => ?_)
    refine sn_aload_n (y := m_L_law) (pc := 1134) dL_law_1134 rfl ?_
    refine sn_iload (y := m_L_law) (pc := 1135) dL_law_1135 rfl ?_
    refine sn_iconst (y := m_L_law) (pc := 1137) dL_law_1137 kc_iconst_2 ?_
    refine sn_iadd (y := m_L_law) (pc := 1138) dL_law_1138 ?_
    refine sn_sld (y := m_L_law) (pc := 1139) hX dL_law_1139 (fun r420 => ?_)
    refine sn_invV (y := m_L_law) (pc := 1140) ca_8 (av := [vI r419, vI r420]) (o := x1) (st := []) dL_law_1140 lk_L_113 im_X10_form se_X10_form rfl rfl rfl rfl ⟨by decide, by decide⟩ (c_X10_form cx.1 x1 r419 r420) (fun r421 => ?_)
    refine sn_aload_n (y := m_L_law) (pc := 1143) dL_law_1143 rfl ?_
    refine sn_aload_n (y := m_L_law) (pc := 1144) dL_law_1144 rfl ?_
    refine sn_iload (y := m_L_law) (pc := 1145) dL_law_1145 rfl ?_
    refine sn_iconst (y := m_L_law) (pc := 1147) dL_law_1147 kc_iconst_1 ?_
    refine sn_iadd (y := m_L_law) (pc := 1148) dL_law_1148 ?_
    refine sn_sld (y := m_L_law) (pc := 1149) hX dL_law_1149 (fun r422 => ?_)
    refine sn_aload_n (y := m_L_law) (pc := 1150) dL_law_1150 rfl ?_
    refine sn_iload (y := m_L_law) (pc := 1151) dL_law_1151 rfl ?_
    refine sn_iconst (y := m_L_law) (pc := 1153) dL_law_1153 kc_iconst_2 ?_
    refine sn_iadd (y := m_L_law) (pc := 1154) dL_law_1154 ?_
    refine sn_sld (y := m_L_law) (pc := 1155) hX dL_law_1155 (fun r423 => ?_)
    refine sn_invV (y := m_L_law) (pc := 1156) ca_11 (av := [vI r422, vI r423]) (o := x2) (st := [vI r421]) dL_law_1156 lk_L_116 im_X13_form se_X13_form rfl rfl rfl rfl ⟨by decide, by decide⟩ (c_X13_form cx.1 x2 r422 r423) (fun r424 => ?_)
    refine sn_icmp_eq (y := m_L_law) (pc := 1159) (tgt := 1916) dL_law_1159 (by decide) (fun _ => ?_) (fun _ => ?_)
    · refine sn_iinc (y := m_L_law) (pc := 1916) (v := x4 + 6) dL_law_1916 rfl (by rfl) rfl ?_
      refine sn_goto (y := m_L_law) (pc := 1919) (tgt := 23) dL_law_1919 (by decide) ?_
      exact sn_sub rfl (hk23 (x4 + 6))
    refine sn_iconst (y := m_L_law) (pc := 1162) dL_law_1162 kc_iconst_0 ?_
    exact sn_zreturnC (by decide) rfl dL_law_1163
  refine sn_tabC (v := (23 : Int32)) (n := 23) (tgt := 1164) (off := 1124) dL_law_40 (by decide) (by decide) rfl (by decide) ?_ (fun h23 => ?_)
  · refine sn_aload_n (y := m_L_law) (pc := 1164) dL_law_1164 rfl ?_
    refine sn_aload_n (y := m_L_law) (pc := 1165) dL_law_1165 rfl ?_
    refine sn_iload (y := m_L_law) (pc := 1166) dL_law_1166 rfl ?_
    refine sn_iconst (y := m_L_law) (pc := 1168) dL_law_1168 kc_iconst_1 ?_
    refine sn_iadd (y := m_L_law) (pc := 1169) dL_law_1169 ?_
    refine sn_sld (y := m_L_law) (pc := 1170) hX dL_law_1170 (fun r425 => ?_)
    refine sn_aload_n (y := m_L_law) (pc := 1171) dL_law_1171 rfl ?_
    refine sn_iload (y := m_L_law) (pc := 1172) dL_law_1172 rfl ?_
    refine sn_iconst (y := m_L_law) (pc := 1174) dL_law_1174 kc_iconst_2 ?_
    refine sn_iadd (y := m_L_law) (pc := 1175) dL_law_1175 ?_
    refine sn_sld (y := m_L_law) (pc := 1176) hX dL_law_1176 (fun r426 => ?_)
    refine sn_aload_n (y := m_L_law) (pc := 1177) dL_law_1177 rfl ?_
    refine sn_iload (y := m_L_law) (pc := 1178) dL_law_1178 rfl ?_
    refine sn_iconst (y := m_L_law) (pc := 1180) dL_law_1180 kc_iconst_3 ?_
    refine sn_iadd (y := m_L_law) (pc := 1181) dL_law_1181 ?_
    refine sn_sld (y := m_L_law) (pc := 1182) hX dL_law_1182 (fun r427 => ?_)
    refine sn_invV (y := m_L_law) (pc := 1183) ca_8 (av := [vI r425, vI r426, vI r427]) (o := x1) (st := []) dL_law_1183 lk_L_117 im_X10_power se_X10_power rfl rfl rfl rfl ⟨by decide, by decide⟩ (c_X10_power cx.1 x1 r425 r426 r427) (fun r428 => ?_)
    refine sn_aload_n (y := m_L_law) (pc := 1186) dL_law_1186 rfl ?_
    refine sn_aload_n (y := m_L_law) (pc := 1187) dL_law_1187 rfl ?_
    refine sn_iload (y := m_L_law) (pc := 1188) dL_law_1188 rfl ?_
    refine sn_iconst (y := m_L_law) (pc := 1190) dL_law_1190 kc_iconst_1 ?_
    refine sn_iadd (y := m_L_law) (pc := 1191) dL_law_1191 ?_
    refine sn_sld (y := m_L_law) (pc := 1192) hX dL_law_1192 (fun r429 => ?_)
    refine sn_aload_n (y := m_L_law) (pc := 1193) dL_law_1193 rfl ?_
    refine sn_iload (y := m_L_law) (pc := 1194) dL_law_1194 rfl ?_
    refine sn_iconst (y := m_L_law) (pc := 1196) dL_law_1196 kc_iconst_2 ?_
    refine sn_iadd (y := m_L_law) (pc := 1197) dL_law_1197 ?_
    refine sn_sld (y := m_L_law) (pc := 1198) hX dL_law_1198 (fun r430 => ?_)
    refine sn_aload_n (y := m_L_law) (pc := 1199) dL_law_1199 rfl ?_
    refine sn_iload (y := m_L_law) (pc := 1200) dL_law_1200 rfl ?_
    refine sn_iconst (y := m_L_law) (pc := 1202) dL_law_1202 kc_iconst_3 ?_
    refine sn_iadd (y := m_L_law) (pc := 1203) dL_law_1203 ?_
    refine sn_sld (y := m_L_law) (pc := 1204) hX dL_law_1204 (fun r431 => ?_)
    refine sn_invV (y := m_L_law) (pc := 1205) ca_11 (av := [vI r429, vI r430, vI r431]) (o := x2) (st := [vI r428]) dL_law_1205 lk_L_120 im_X13_power se_X13_power rfl rfl rfl rfl ⟨by decide, by decide⟩ (c_X13_power cx.1 x2 r429 r430 r431) (fun r432 => ?_)
    refine sn_icmp_eq (y := m_L_law) (pc := 1208) (tgt := 1916) dL_law_1208 (by decide) (fun _ => ?_) (fun _ => ?_)
    · refine sn_iinc (y := m_L_law) (pc := 1916) (v := x4 + 6) dL_law_1916 rfl (by rfl) rfl ?_
      refine sn_goto (y := m_L_law) (pc := 1919) (tgt := 23) dL_law_1919 (by decide) ?_
      exact sn_sub rfl (hk23 (x4 + 6))
    refine sn_iconst (y := m_L_law) (pc := 1211) dL_law_1211 kc_iconst_0 ?_
    exact sn_zreturnC (by decide) rfl dL_law_1212
  refine sn_tabC (v := (24 : Int32)) (n := 24) (tgt := 1213) (off := 1173) dL_law_40 (by decide) (by decide) rfl (by decide) ?_ (fun h24 => ?_)
  · refine sn_aload_n (y := m_L_law) (pc := 1213) dL_law_1213 rfl ?_
    refine sn_aload_n (y := m_L_law) (pc := 1214) dL_law_1214 rfl ?_
    refine sn_iload (y := m_L_law) (pc := 1215) dL_law_1215 rfl ?_
    refine sn_iconst (y := m_L_law) (pc := 1217) dL_law_1217 kc_iconst_1 ?_
    refine sn_iadd (y := m_L_law) (pc := 1218) dL_law_1218 ?_
    refine sn_sld (y := m_L_law) (pc := 1219) hX dL_law_1219 (fun r433 => ?_)
    refine sn_invV (y := m_L_law) (pc := 1220) ca_8 (av := [vI r433]) (o := x1) (st := []) dL_law_1220 lk_L_121 im_X10_classSums se_X10_classSums rfl rfl rfl rfl ⟨by decide, by decide⟩ (c_X10_classSums cx.1 x1 r433) (fun r434 => ?_)
    refine sn_aload_n (y := m_L_law) (pc := 1223) dL_law_1223 rfl ?_
    refine sn_aload_n (y := m_L_law) (pc := 1224) dL_law_1224 rfl ?_
    refine sn_iload (y := m_L_law) (pc := 1225) dL_law_1225 rfl ?_
    refine sn_iconst (y := m_L_law) (pc := 1227) dL_law_1227 kc_iconst_1 ?_
    refine sn_iadd (y := m_L_law) (pc := 1228) dL_law_1228 ?_
    refine sn_sld (y := m_L_law) (pc := 1229) hX dL_law_1229 (fun r435 => ?_)
    refine sn_invV (y := m_L_law) (pc := 1230) ca_11 (av := [vI r435]) (o := x2) (st := [vI r434]) dL_law_1230 lk_L_124 im_X13_classSums se_X13_classSums rfl rfl rfl rfl ⟨by decide, by decide⟩ (c_X13_classSums cx.1 x2 r435) (fun r436 => ?_)
    refine sn_icmp_eq (y := m_L_law) (pc := 1233) (tgt := 1916) dL_law_1233 (by decide) (fun _ => ?_) (fun _ => ?_)
    · refine sn_iinc (y := m_L_law) (pc := 1916) (v := x4 + 6) dL_law_1916 rfl (by rfl) rfl ?_
      refine sn_goto (y := m_L_law) (pc := 1919) (tgt := 23) dL_law_1919 (by decide) ?_
      exact sn_sub rfl (hk23 (x4 + 6))
    refine sn_iconst (y := m_L_law) (pc := 1236) dL_law_1236 kc_iconst_0 ?_
    exact sn_zreturnC (by decide) rfl dL_law_1237
  refine sn_tabC (v := (25 : Int32)) (n := 25) (tgt := 1238) (off := 1198) dL_law_40 (by decide) (by decide) rfl (by decide) ?_ (fun h25 => ?_)
  · refine sn_aload_n (y := m_L_law) (pc := 1238) dL_law_1238 rfl ?_
    refine sn_aload_n (y := m_L_law) (pc := 1239) dL_law_1239 rfl ?_
    refine sn_iload (y := m_L_law) (pc := 1240) dL_law_1240 rfl ?_
    refine sn_iconst (y := m_L_law) (pc := 1242) dL_law_1242 kc_iconst_1 ?_
    refine sn_iadd (y := m_L_law) (pc := 1243) dL_law_1243 ?_
    refine sn_sld (y := m_L_law) (pc := 1244) hX dL_law_1244 (fun r437 => ?_)
    refine sn_invV (y := m_L_law) (pc := 1245) ca_8 (av := [vI r437]) (o := x1) (st := []) dL_law_1245 lk_L_125 im_X10_classForms se_X10_classForms rfl rfl rfl rfl ⟨by decide, by decide⟩ (c_X10_classForms cx.1 x1 r437) (fun r438 => ?_)
    refine sn_aload_n (y := m_L_law) (pc := 1248) dL_law_1248 rfl ?_
    refine sn_aload_n (y := m_L_law) (pc := 1249) dL_law_1249 rfl ?_
    refine sn_iload (y := m_L_law) (pc := 1250) dL_law_1250 rfl ?_
    refine sn_iconst (y := m_L_law) (pc := 1252) dL_law_1252 kc_iconst_1 ?_
    refine sn_iadd (y := m_L_law) (pc := 1253) dL_law_1253 ?_
    refine sn_sld (y := m_L_law) (pc := 1254) hX dL_law_1254 (fun r439 => ?_)
    refine sn_invV (y := m_L_law) (pc := 1255) ca_11 (av := [vI r439]) (o := x2) (st := [vI r438]) dL_law_1255 lk_L_128 im_X13_classForms se_X13_classForms rfl rfl rfl rfl ⟨by decide, by decide⟩ (c_X13_classForms cx.1 x2 r439) (fun r440 => ?_)
    refine sn_icmp_eq (y := m_L_law) (pc := 1258) (tgt := 1916) dL_law_1258 (by decide) (fun _ => ?_) (fun _ => ?_)
    · refine sn_iinc (y := m_L_law) (pc := 1916) (v := x4 + 6) dL_law_1916 rfl (by rfl) rfl ?_
      refine sn_goto (y := m_L_law) (pc := 1919) (tgt := 23) dL_law_1919 (by decide) ?_
      exact sn_sub rfl (hk23 (x4 + 6))
    refine sn_iconst (y := m_L_law) (pc := 1261) dL_law_1261 kc_iconst_0 ?_
    exact sn_zreturnC (by decide) rfl dL_law_1262
  refine sn_tabC (v := (26 : Int32)) (n := 26) (tgt := 1263) (off := 1223) dL_law_40 (by decide) (by decide) rfl (by decide) ?_ (fun h26 => ?_)
  · refine sn_aload_n (y := m_L_law) (pc := 1263) dL_law_1263 rfl ?_
    refine sn_aload_n (y := m_L_law) (pc := 1264) dL_law_1264 rfl ?_
    refine sn_iload (y := m_L_law) (pc := 1265) dL_law_1265 rfl ?_
    refine sn_iconst (y := m_L_law) (pc := 1267) dL_law_1267 kc_iconst_1 ?_
    refine sn_iadd (y := m_L_law) (pc := 1268) dL_law_1268 ?_
    refine sn_sld (y := m_L_law) (pc := 1269) hX dL_law_1269 (fun r441 => ?_)
    refine sn_aload_n (y := m_L_law) (pc := 1270) dL_law_1270 rfl ?_
    refine sn_iload (y := m_L_law) (pc := 1271) dL_law_1271 rfl ?_
    refine sn_iconst (y := m_L_law) (pc := 1273) dL_law_1273 kc_iconst_2 ?_
    refine sn_iadd (y := m_L_law) (pc := 1274) dL_law_1274 ?_
    refine sn_sld (y := m_L_law) (pc := 1275) hX dL_law_1275 (fun r442 => ?_)
    refine sn_aload_n (y := m_L_law) (pc := 1276) dL_law_1276 rfl ?_
    refine sn_iload (y := m_L_law) (pc := 1277) dL_law_1277 rfl ?_
    refine sn_iconst (y := m_L_law) (pc := 1279) dL_law_1279 kc_iconst_3 ?_
    refine sn_iadd (y := m_L_law) (pc := 1280) dL_law_1280 ?_
    refine sn_sld (y := m_L_law) (pc := 1281) hX dL_law_1281 (fun r443 => ?_)
    refine sn_invV (y := m_L_law) (pc := 1282) ca_8 (av := [vI r441, vI r442, vI r443]) (o := x1) (st := []) dL_law_1282 lk_L_129 im_X10_meets se_X10_meets rfl rfl rfl rfl ⟨by decide, by decide⟩ (c_X10_meets cx.1 x1 r441 r442 r443) (fun r444 => ?_)
    refine sn_aload_n (y := m_L_law) (pc := 1285) dL_law_1285 rfl ?_
    refine sn_aload_n (y := m_L_law) (pc := 1286) dL_law_1286 rfl ?_
    refine sn_iload (y := m_L_law) (pc := 1287) dL_law_1287 rfl ?_
    refine sn_iconst (y := m_L_law) (pc := 1289) dL_law_1289 kc_iconst_1 ?_
    refine sn_iadd (y := m_L_law) (pc := 1290) dL_law_1290 ?_
    refine sn_sld (y := m_L_law) (pc := 1291) hX dL_law_1291 (fun r445 => ?_)
    refine sn_aload_n (y := m_L_law) (pc := 1292) dL_law_1292 rfl ?_
    refine sn_iload (y := m_L_law) (pc := 1293) dL_law_1293 rfl ?_
    refine sn_iconst (y := m_L_law) (pc := 1295) dL_law_1295 kc_iconst_2 ?_
    refine sn_iadd (y := m_L_law) (pc := 1296) dL_law_1296 ?_
    refine sn_sld (y := m_L_law) (pc := 1297) hX dL_law_1297 (fun r446 => ?_)
    refine sn_aload_n (y := m_L_law) (pc := 1298) dL_law_1298 rfl ?_
    refine sn_iload (y := m_L_law) (pc := 1299) dL_law_1299 rfl ?_
    refine sn_iconst (y := m_L_law) (pc := 1301) dL_law_1301 kc_iconst_3 ?_
    refine sn_iadd (y := m_L_law) (pc := 1302) dL_law_1302 ?_
    refine sn_sld (y := m_L_law) (pc := 1303) hX dL_law_1303 (fun r447 => ?_)
    refine sn_invV (y := m_L_law) (pc := 1304) ca_11 (av := [vI r445, vI r446, vI r447]) (o := x2) (st := [vI r444]) dL_law_1304 lk_L_132 im_X13_meets se_X13_meets rfl rfl rfl rfl ⟨by decide, by decide⟩ (c_X13_meets cx.1 x2 r445 r446 r447) (fun r448 => ?_)
    refine sn_icmp_eq (y := m_L_law) (pc := 1307) (tgt := 1916) dL_law_1307 (by decide) (fun _ => ?_) (fun _ => ?_)
    · refine sn_iinc (y := m_L_law) (pc := 1916) (v := x4 + 6) dL_law_1916 rfl (by rfl) rfl ?_
      refine sn_goto (y := m_L_law) (pc := 1919) (tgt := 23) dL_law_1919 (by decide) ?_
      exact sn_sub rfl (hk23 (x4 + 6))
    refine sn_iconst (y := m_L_law) (pc := 1310) dL_law_1310 kc_iconst_0 ?_
    exact sn_zreturnC (by decide) rfl dL_law_1311
  refine sn_tabC (v := (27 : Int32)) (n := 27) (tgt := 1312) (off := 1272) dL_law_40 (by decide) (by decide) rfl (by decide) ?_ (fun h27 => ?_)
  · refine sn_aload_n (y := m_L_law) (pc := 1312) dL_law_1312 rfl ?_
    refine sn_aload_n (y := m_L_law) (pc := 1313) dL_law_1313 rfl ?_
    refine sn_iload (y := m_L_law) (pc := 1314) dL_law_1314 rfl ?_
    refine sn_iconst (y := m_L_law) (pc := 1316) dL_law_1316 kc_iconst_1 ?_
    refine sn_iadd (y := m_L_law) (pc := 1317) dL_law_1317 ?_
    refine sn_sld (y := m_L_law) (pc := 1318) hX dL_law_1318 (fun r449 => ?_)
    refine sn_invV (y := m_L_law) (pc := 1319) ca_8 (av := [vI r449]) (o := x1) (st := []) dL_law_1319 lk_L_133 im_X10_even se_X10_even rfl rfl rfl rfl ⟨by decide, by decide⟩ (c_X10_even cx.1 x1 r449) (fun r450 => ?_)
    refine sn_aload_n (y := m_L_law) (pc := 1322) dL_law_1322 rfl ?_
    refine sn_aload_n (y := m_L_law) (pc := 1323) dL_law_1323 rfl ?_
    refine sn_iload (y := m_L_law) (pc := 1324) dL_law_1324 rfl ?_
    refine sn_iconst (y := m_L_law) (pc := 1326) dL_law_1326 kc_iconst_1 ?_
    refine sn_iadd (y := m_L_law) (pc := 1327) dL_law_1327 ?_
    refine sn_sld (y := m_L_law) (pc := 1328) hX dL_law_1328 (fun r451 => ?_)
    refine sn_invV (y := m_L_law) (pc := 1329) ca_11 (av := [vI r451]) (o := x2) (st := [vI r450]) dL_law_1329 lk_L_136 im_X13_even se_X13_even rfl rfl rfl rfl ⟨by decide, by decide⟩ (c_X13_even cx.1 x2 r451) (fun r452 => ?_)
    refine sn_icmp_eq (y := m_L_law) (pc := 1332) (tgt := 1916) dL_law_1332 (by decide) (fun _ => ?_) (fun _ => ?_)
    · refine sn_iinc (y := m_L_law) (pc := 1916) (v := x4 + 6) dL_law_1916 rfl (by rfl) rfl ?_
      refine sn_goto (y := m_L_law) (pc := 1919) (tgt := 23) dL_law_1919 (by decide) ?_
      exact sn_sub rfl (hk23 (x4 + 6))
    refine sn_iconst (y := m_L_law) (pc := 1335) dL_law_1335 kc_iconst_0 ?_
    exact sn_zreturnC (by decide) rfl dL_law_1336
  refine sn_tabC (v := (28 : Int32)) (n := 28) (tgt := 1337) (off := 1297) dL_law_40 (by decide) (by decide) rfl (by decide) ?_ (fun h28 => ?_)
  · refine sn_aload_n (y := m_L_law) (pc := 1337) dL_law_1337 rfl ?_
    refine sn_aload_n (y := m_L_law) (pc := 1338) dL_law_1338 rfl ?_
    refine sn_iload (y := m_L_law) (pc := 1339) dL_law_1339 rfl ?_
    refine sn_iconst (y := m_L_law) (pc := 1341) dL_law_1341 kc_iconst_1 ?_
    refine sn_iadd (y := m_L_law) (pc := 1342) dL_law_1342 ?_
    refine sn_sld (y := m_L_law) (pc := 1343) hX dL_law_1343 (fun r453 => ?_)
    refine sn_aload_n (y := m_L_law) (pc := 1344) dL_law_1344 rfl ?_
    refine sn_iload (y := m_L_law) (pc := 1345) dL_law_1345 rfl ?_
    refine sn_iconst (y := m_L_law) (pc := 1347) dL_law_1347 kc_iconst_2 ?_
    refine sn_iadd (y := m_L_law) (pc := 1348) dL_law_1348 ?_
    refine sn_sld (y := m_L_law) (pc := 1349) hX dL_law_1349 (fun r454 => ?_)
    refine sn_aload_n (y := m_L_law) (pc := 1350) dL_law_1350 rfl ?_
    refine sn_iload (y := m_L_law) (pc := 1351) dL_law_1351 rfl ?_
    refine sn_iconst (y := m_L_law) (pc := 1353) dL_law_1353 kc_iconst_3 ?_
    refine sn_iadd (y := m_L_law) (pc := 1354) dL_law_1354 ?_
    refine sn_sld (y := m_L_law) (pc := 1355) hX dL_law_1355 (fun r455 => ?_)
    refine sn_invV (y := m_L_law) (pc := 1356) ca_8 (av := [vI r453, vI r454, vI r455]) (o := x1) (st := []) dL_law_1356 lk_L_137 im_X10_echo se_X10_echo rfl rfl rfl rfl ⟨by decide, by decide⟩ (c_X10_echo cx.1 x1 r453 r454 r455) (fun r456 => ?_)
    refine sn_aload_n (y := m_L_law) (pc := 1359) dL_law_1359 rfl ?_
    refine sn_aload_n (y := m_L_law) (pc := 1360) dL_law_1360 rfl ?_
    refine sn_iload (y := m_L_law) (pc := 1361) dL_law_1361 rfl ?_
    refine sn_iconst (y := m_L_law) (pc := 1363) dL_law_1363 kc_iconst_1 ?_
    refine sn_iadd (y := m_L_law) (pc := 1364) dL_law_1364 ?_
    refine sn_sld (y := m_L_law) (pc := 1365) hX dL_law_1365 (fun r457 => ?_)
    refine sn_aload_n (y := m_L_law) (pc := 1366) dL_law_1366 rfl ?_
    refine sn_iload (y := m_L_law) (pc := 1367) dL_law_1367 rfl ?_
    refine sn_iconst (y := m_L_law) (pc := 1369) dL_law_1369 kc_iconst_2 ?_
    refine sn_iadd (y := m_L_law) (pc := 1370) dL_law_1370 ?_
    refine sn_sld (y := m_L_law) (pc := 1371) hX dL_law_1371 (fun r458 => ?_)
    refine sn_aload_n (y := m_L_law) (pc := 1372) dL_law_1372 rfl ?_
    refine sn_iload (y := m_L_law) (pc := 1373) dL_law_1373 rfl ?_
    refine sn_iconst (y := m_L_law) (pc := 1375) dL_law_1375 kc_iconst_3 ?_
    refine sn_iadd (y := m_L_law) (pc := 1376) dL_law_1376 ?_
    refine sn_sld (y := m_L_law) (pc := 1377) hX dL_law_1377 (fun r459 => ?_)
    refine sn_invV (y := m_L_law) (pc := 1378) ca_11 (av := [vI r457, vI r458, vI r459]) (o := x2) (st := [vI r456]) dL_law_1378 lk_L_140 im_X13_echo se_X13_echo rfl rfl rfl rfl ⟨by decide, by decide⟩ (c_X13_echo cx.1 x2 r457 r458 r459) (fun r460 => ?_)
    refine sn_icmp_eq (y := m_L_law) (pc := 1381) (tgt := 1916) dL_law_1381 (by decide) (fun _ => ?_) (fun _ => ?_)
    · refine sn_iinc (y := m_L_law) (pc := 1916) (v := x4 + 6) dL_law_1916 rfl (by rfl) rfl ?_
      refine sn_goto (y := m_L_law) (pc := 1919) (tgt := 23) dL_law_1919 (by decide) ?_
      exact sn_sub rfl (hk23 (x4 + 6))
    refine sn_iconst (y := m_L_law) (pc := 1384) dL_law_1384 kc_iconst_0 ?_
    exact sn_zreturnC (by decide) rfl dL_law_1385
  refine sn_tabC (v := (29 : Int32)) (n := 29) (tgt := 1386) (off := 1346) dL_law_40 (by decide) (by decide) rfl (by decide) ?_ (fun h29 => ?_)
  · refine sn_aload_n (y := m_L_law) (pc := 1386) dL_law_1386 rfl ?_
    refine sn_aload_n (y := m_L_law) (pc := 1387) dL_law_1387 rfl ?_
    refine sn_iload (y := m_L_law) (pc := 1388) dL_law_1388 rfl ?_
    refine sn_iconst (y := m_L_law) (pc := 1390) dL_law_1390 kc_iconst_1 ?_
    refine sn_iadd (y := m_L_law) (pc := 1391) dL_law_1391 ?_
    refine sn_sld (y := m_L_law) (pc := 1392) hX dL_law_1392 (fun r461 => ?_)
    refine sn_aload_n (y := m_L_law) (pc := 1393) dL_law_1393 rfl ?_
    refine sn_iload (y := m_L_law) (pc := 1394) dL_law_1394 rfl ?_
    refine sn_iconst (y := m_L_law) (pc := 1396) dL_law_1396 kc_iconst_2 ?_
    refine sn_iadd (y := m_L_law) (pc := 1397) dL_law_1397 ?_
    refine sn_sld (y := m_L_law) (pc := 1398) hX dL_law_1398 (fun r462 => ?_)
    refine sn_invV (y := m_L_law) (pc := 1399) ca_8 (av := [vI r461, vI r462]) (o := x1) (st := []) dL_law_1399 lk_L_141 im_X10_noise se_X10_noise rfl rfl rfl rfl ⟨by decide, by decide⟩ (c_X10_noise cx.1 x1 r461 r462) (fun r463 => ?_)
    refine sn_aload_n (y := m_L_law) (pc := 1402) dL_law_1402 rfl ?_
    refine sn_aload_n (y := m_L_law) (pc := 1403) dL_law_1403 rfl ?_
    refine sn_iload (y := m_L_law) (pc := 1404) dL_law_1404 rfl ?_
    refine sn_iconst (y := m_L_law) (pc := 1406) dL_law_1406 kc_iconst_1 ?_
    refine sn_iadd (y := m_L_law) (pc := 1407) dL_law_1407 ?_
    refine sn_sld (y := m_L_law) (pc := 1408) hX dL_law_1408 (fun r464 => ?_)
    refine sn_aload_n (y := m_L_law) (pc := 1409) dL_law_1409 rfl ?_
    refine sn_iload (y := m_L_law) (pc := 1410) dL_law_1410 rfl ?_
    refine sn_iconst (y := m_L_law) (pc := 1412) dL_law_1412 kc_iconst_2 ?_
    refine sn_iadd (y := m_L_law) (pc := 1413) dL_law_1413 ?_
    refine sn_sld (y := m_L_law) (pc := 1414) hX dL_law_1414 (fun r465 => ?_)
    refine sn_invV (y := m_L_law) (pc := 1415) ca_11 (av := [vI r464, vI r465]) (o := x2) (st := [vJ r463]) dL_law_1415 lk_L_144 im_X13_noise se_X13_noise rfl rfl rfl rfl ⟨by decide, by decide⟩ (c_X13_noise cx.1 x2 r464 r465) (fun r466 => ?_)
    refine sn_lc_eq (y := m_L_law) (pc := 1418) (tgt := 1916) dL_law_1418 dL_law_1419 (by decide) (fun _ => ?_) (fun _ => ?_)
    · refine sn_iinc (y := m_L_law) (pc := 1916) (v := x4 + 6) dL_law_1916 rfl (by rfl) rfl ?_
      refine sn_goto (y := m_L_law) (pc := 1919) (tgt := 23) dL_law_1919 (by decide) ?_
      exact sn_sub rfl (hk23 (x4 + 6))
    refine sn_iconst (y := m_L_law) (pc := 1422) dL_law_1422 kc_iconst_0 ?_
    exact sn_zreturnC (by decide) rfl dL_law_1423
  refine sn_tabC (v := (30 : Int32)) (n := 30) (tgt := 1424) (off := 1384) dL_law_40 (by decide) (by decide) rfl (by decide) ?_ (fun h30 => ?_)
  · refine sn_aload_n (y := m_L_law) (pc := 1424) dL_law_1424 rfl ?_
    refine sn_aload_n (y := m_L_law) (pc := 1425) dL_law_1425 rfl ?_
    refine sn_iload (y := m_L_law) (pc := 1426) dL_law_1426 rfl ?_
    refine sn_iconst (y := m_L_law) (pc := 1428) dL_law_1428 kc_iconst_1 ?_
    refine sn_iadd (y := m_L_law) (pc := 1429) dL_law_1429 ?_
    refine sn_sld (y := m_L_law) (pc := 1430) hX dL_law_1430 (fun r467 => ?_)
    refine sn_invV (y := m_L_law) (pc := 1431) ca_8 (av := [vI r467]) (o := x1) (st := []) dL_law_1431 lk_L_145 im_X10_lowest se_X10_lowest rfl rfl rfl rfl ⟨by decide, by decide⟩ (c_X10_lowest cx.1 x1 r467) (fun r468 => ?_)
    refine sn_aload_n (y := m_L_law) (pc := 1434) dL_law_1434 rfl ?_
    refine sn_aload_n (y := m_L_law) (pc := 1435) dL_law_1435 rfl ?_
    refine sn_iload (y := m_L_law) (pc := 1436) dL_law_1436 rfl ?_
    refine sn_iconst (y := m_L_law) (pc := 1438) dL_law_1438 kc_iconst_1 ?_
    refine sn_iadd (y := m_L_law) (pc := 1439) dL_law_1439 ?_
    refine sn_sld (y := m_L_law) (pc := 1440) hX dL_law_1440 (fun r469 => ?_)
    refine sn_invV (y := m_L_law) (pc := 1441) ca_11 (av := [vI r469]) (o := x2) (st := [vI r468]) dL_law_1441 lk_L_148 im_X13_lowest se_X13_lowest rfl rfl rfl rfl ⟨by decide, by decide⟩ (c_X13_lowest cx.1 x2 r469) (fun r470 => ?_)
    refine sn_icmp_eq (y := m_L_law) (pc := 1444) (tgt := 1916) dL_law_1444 (by decide) (fun _ => ?_) (fun _ => ?_)
    · refine sn_iinc (y := m_L_law) (pc := 1916) (v := x4 + 6) dL_law_1916 rfl (by rfl) rfl ?_
      refine sn_goto (y := m_L_law) (pc := 1919) (tgt := 23) dL_law_1919 (by decide) ?_
      exact sn_sub rfl (hk23 (x4 + 6))
    refine sn_iconst (y := m_L_law) (pc := 1447) dL_law_1447 kc_iconst_0 ?_
    exact sn_zreturnC (by decide) rfl dL_law_1448
  refine sn_tabC (v := (31 : Int32)) (n := 31) (tgt := 1449) (off := 1409) dL_law_40 (by decide) (by decide) rfl (by decide) ?_ (fun h31 => ?_)
  · refine sn_aload_n (y := m_L_law) (pc := 1449) dL_law_1449 rfl ?_
    refine sn_aload_n (y := m_L_law) (pc := 1450) dL_law_1450 rfl ?_
    refine sn_iload (y := m_L_law) (pc := 1451) dL_law_1451 rfl ?_
    refine sn_iconst (y := m_L_law) (pc := 1453) dL_law_1453 kc_iconst_1 ?_
    refine sn_iadd (y := m_L_law) (pc := 1454) dL_law_1454 ?_
    refine sn_sld (y := m_L_law) (pc := 1455) hX dL_law_1455 (fun r471 => ?_)
    refine sn_invV (y := m_L_law) (pc := 1456) ca_8 (av := [vI r471]) (o := x1) (st := []) dL_law_1456 lk_L_149 im_X10_choose se_X10_choose rfl rfl rfl rfl ⟨by decide, by decide⟩ (c_X10_choose cx.1 x1 r471) (fun r472 => ?_)
    refine sn_aload_n (y := m_L_law) (pc := 1459) dL_law_1459 rfl ?_
    refine sn_aload_n (y := m_L_law) (pc := 1460) dL_law_1460 rfl ?_
    refine sn_iload (y := m_L_law) (pc := 1461) dL_law_1461 rfl ?_
    refine sn_iconst (y := m_L_law) (pc := 1463) dL_law_1463 kc_iconst_1 ?_
    refine sn_iadd (y := m_L_law) (pc := 1464) dL_law_1464 ?_
    refine sn_sld (y := m_L_law) (pc := 1465) hX dL_law_1465 (fun r473 => ?_)
    refine sn_invV (y := m_L_law) (pc := 1466) ca_11 (av := [vI r473]) (o := x2) (st := [vI r472]) dL_law_1466 lk_L_153 im_X13_choose se_X13_choose rfl rfl rfl rfl ⟨by decide, by decide⟩ (c_X13_choose cx.1 x2 r473) (fun r474 => ?_)
    refine sn_icmp_eq (y := m_L_law) (pc := 1469) (tgt := 1916) dL_law_1469 (by decide) (fun _ => ?_) (fun _ => ?_)
    · refine sn_iinc (y := m_L_law) (pc := 1916) (v := x4 + 6) dL_law_1916 rfl (by rfl) rfl ?_
      refine sn_goto (y := m_L_law) (pc := 1919) (tgt := 23) dL_law_1919 (by decide) ?_
      exact sn_sub rfl (hk23 (x4 + 6))
    refine sn_iconst (y := m_L_law) (pc := 1472) dL_law_1472 kc_iconst_0 ?_
    exact sn_zreturnC (by decide) rfl dL_law_1473
  refine sn_tabC (v := (32 : Int32)) (n := 32) (tgt := 1474) (off := 1434) dL_law_40 (by decide) (by decide) rfl (by decide) ?_ (fun h32 => ?_)
  · refine sn_aload_n (y := m_L_law) (pc := 1474) dL_law_1474 rfl ?_
    refine sn_aload_n (y := m_L_law) (pc := 1475) dL_law_1475 rfl ?_
    refine sn_iload (y := m_L_law) (pc := 1476) dL_law_1476 rfl ?_
    refine sn_iconst (y := m_L_law) (pc := 1478) dL_law_1478 kc_iconst_1 ?_
    refine sn_iadd (y := m_L_law) (pc := 1479) dL_law_1479 ?_
    refine sn_sld (y := m_L_law) (pc := 1480) hX dL_law_1480 (fun r475 => ?_)
    refine sn_aload_n (y := m_L_law) (pc := 1481) dL_law_1481 rfl ?_
    refine sn_iload (y := m_L_law) (pc := 1482) dL_law_1482 rfl ?_
    refine sn_iconst (y := m_L_law) (pc := 1484) dL_law_1484 kc_iconst_2 ?_
    refine sn_iadd (y := m_L_law) (pc := 1485) dL_law_1485 ?_
    refine sn_sld (y := m_L_law) (pc := 1486) hX dL_law_1486 (fun r476 => ?_)
    refine sn_invV (y := m_L_law) (pc := 1487) ca_8 (av := [vI r475, vI r476]) (o := x1) (st := []) dL_law_1487 lk_L_154 im_X10_register se_X10_register rfl rfl rfl rfl ⟨by decide, by decide⟩ (c_X10_register cx.1 x1 r475 r476) (fun r477 => ?_)
    refine sn_aload_n (y := m_L_law) (pc := 1490) dL_law_1490 rfl ?_
    refine sn_aload_n (y := m_L_law) (pc := 1491) dL_law_1491 rfl ?_
    refine sn_iload (y := m_L_law) (pc := 1492) dL_law_1492 rfl ?_
    refine sn_iconst (y := m_L_law) (pc := 1494) dL_law_1494 kc_iconst_1 ?_
    refine sn_iadd (y := m_L_law) (pc := 1495) dL_law_1495 ?_
    refine sn_sld (y := m_L_law) (pc := 1496) hX dL_law_1496 (fun r478 => ?_)
    refine sn_aload_n (y := m_L_law) (pc := 1497) dL_law_1497 rfl ?_
    refine sn_iload (y := m_L_law) (pc := 1498) dL_law_1498 rfl ?_
    refine sn_iconst (y := m_L_law) (pc := 1500) dL_law_1500 kc_iconst_2 ?_
    refine sn_iadd (y := m_L_law) (pc := 1501) dL_law_1501 ?_
    refine sn_sld (y := m_L_law) (pc := 1502) hX dL_law_1502 (fun r479 => ?_)
    refine sn_invV (y := m_L_law) (pc := 1503) ca_11 (av := [vI r478, vI r479]) (o := x2) (st := [vI r477]) dL_law_1503 lk_L_157 im_X13_register se_X13_register rfl rfl rfl rfl ⟨by decide, by decide⟩ (c_X13_register cx.1 x2 r478 r479) (fun r480 => ?_)
    refine sn_icmp_eq (y := m_L_law) (pc := 1506) (tgt := 1916) dL_law_1506 (by decide) (fun _ => ?_) (fun _ => ?_)
    · refine sn_iinc (y := m_L_law) (pc := 1916) (v := x4 + 6) dL_law_1916 rfl (by rfl) rfl ?_
      refine sn_goto (y := m_L_law) (pc := 1919) (tgt := 23) dL_law_1919 (by decide) ?_
      exact sn_sub rfl (hk23 (x4 + 6))
    refine sn_iconst (y := m_L_law) (pc := 1509) dL_law_1509 kc_iconst_0 ?_
    exact sn_zreturnC (by decide) rfl dL_law_1510
  refine sn_tabC (v := (33 : Int32)) (n := 33) (tgt := 1511) (off := 1471) dL_law_40 (by decide) (by decide) rfl (by decide) ?_ (fun h33 => ?_)
  · refine sn_aload_n (y := m_L_law) (pc := 1511) dL_law_1511 rfl ?_
    refine sn_aload_n (y := m_L_law) (pc := 1512) dL_law_1512 rfl ?_
    refine sn_iload (y := m_L_law) (pc := 1513) dL_law_1513 rfl ?_
    refine sn_iconst (y := m_L_law) (pc := 1515) dL_law_1515 kc_iconst_1 ?_
    refine sn_iadd (y := m_L_law) (pc := 1516) dL_law_1516 ?_
    refine sn_sld (y := m_L_law) (pc := 1517) hX dL_law_1517 (fun r481 => ?_)
    refine sn_aload_n (y := m_L_law) (pc := 1518) dL_law_1518 rfl ?_
    refine sn_iload (y := m_L_law) (pc := 1519) dL_law_1519 rfl ?_
    refine sn_iconst (y := m_L_law) (pc := 1521) dL_law_1521 kc_iconst_2 ?_
    refine sn_iadd (y := m_L_law) (pc := 1522) dL_law_1522 ?_
    refine sn_sld (y := m_L_law) (pc := 1523) hX dL_law_1523 (fun r482 => ?_)
    refine sn_invV (y := m_L_law) (pc := 1524) ca_8 (av := [vI r481, vI r482]) (o := x1) (st := []) dL_law_1524 lk_L_158 im_X10_take se_X10_take rfl rfl rfl rfl ⟨by decide, by decide⟩ (c_X10_take cx.1 x1 r481 r482) (fun r483 => ?_)
    refine sn_aload_n (y := m_L_law) (pc := 1527) dL_law_1527 rfl ?_
    refine sn_aload_n (y := m_L_law) (pc := 1528) dL_law_1528 rfl ?_
    refine sn_iload (y := m_L_law) (pc := 1529) dL_law_1529 rfl ?_
    refine sn_iconst (y := m_L_law) (pc := 1531) dL_law_1531 kc_iconst_1 ?_
    refine sn_iadd (y := m_L_law) (pc := 1532) dL_law_1532 ?_
    refine sn_sld (y := m_L_law) (pc := 1533) hX dL_law_1533 (fun r484 => ?_)
    refine sn_aload_n (y := m_L_law) (pc := 1534) dL_law_1534 rfl ?_
    refine sn_iload (y := m_L_law) (pc := 1535) dL_law_1535 rfl ?_
    refine sn_iconst (y := m_L_law) (pc := 1537) dL_law_1537 kc_iconst_2 ?_
    refine sn_iadd (y := m_L_law) (pc := 1538) dL_law_1538 ?_
    refine sn_sld (y := m_L_law) (pc := 1539) hX dL_law_1539 (fun r485 => ?_)
    refine sn_invV (y := m_L_law) (pc := 1540) ca_11 (av := [vI r484, vI r485]) (o := x2) (st := [vI r483]) dL_law_1540 lk_L_162 im_X13_take se_X13_take rfl rfl rfl rfl ⟨by decide, by decide⟩ (c_X13_take cx.1 x2 r484 r485) (fun r486 => ?_)
    refine sn_icmp_eq (y := m_L_law) (pc := 1543) (tgt := 1916) dL_law_1543 (by decide) (fun _ => ?_) (fun _ => ?_)
    · refine sn_iinc (y := m_L_law) (pc := 1916) (v := x4 + 6) dL_law_1916 rfl (by rfl) rfl ?_
      refine sn_goto (y := m_L_law) (pc := 1919) (tgt := 23) dL_law_1919 (by decide) ?_
      exact sn_sub rfl (hk23 (x4 + 6))
    refine sn_iconst (y := m_L_law) (pc := 1546) dL_law_1546 kc_iconst_0 ?_
    exact sn_zreturnC (by decide) rfl dL_law_1547
  refine sn_tabC (v := (34 : Int32)) (n := 34) (tgt := 1548) (off := 1508) dL_law_40 (by decide) (by decide) rfl (by decide) ?_ (fun h34 => ?_)
  · refine sn_aload_n (y := m_L_law) (pc := 1548) dL_law_1548 rfl ?_
    refine sn_aload_n (y := m_L_law) (pc := 1549) dL_law_1549 rfl ?_
    refine sn_iload (y := m_L_law) (pc := 1550) dL_law_1550 rfl ?_
    refine sn_iconst (y := m_L_law) (pc := 1552) dL_law_1552 kc_iconst_1 ?_
    refine sn_iadd (y := m_L_law) (pc := 1553) dL_law_1553 ?_
    refine sn_sld (y := m_L_law) (pc := 1554) hX dL_law_1554 (fun r487 => ?_)
    refine sn_aload_n (y := m_L_law) (pc := 1555) dL_law_1555 rfl ?_
    refine sn_iload (y := m_L_law) (pc := 1556) dL_law_1556 rfl ?_
    refine sn_iconst (y := m_L_law) (pc := 1558) dL_law_1558 kc_iconst_2 ?_
    refine sn_iadd (y := m_L_law) (pc := 1559) dL_law_1559 ?_
    refine sn_sld (y := m_L_law) (pc := 1560) hX dL_law_1560 (fun r488 => ?_)
    refine sn_aload_n (y := m_L_law) (pc := 1561) dL_law_1561 rfl ?_
    refine sn_iload (y := m_L_law) (pc := 1562) dL_law_1562 rfl ?_
    refine sn_iconst (y := m_L_law) (pc := 1564) dL_law_1564 kc_iconst_3 ?_
    refine sn_iadd (y := m_L_law) (pc := 1565) dL_law_1565 ?_
    refine sn_sld (y := m_L_law) (pc := 1566) hX dL_law_1566 (fun r489 => ?_)
    refine sn_invV (y := m_L_law) (pc := 1567) ca_8 (av := [vI r487, vI r488, vI r489]) (o := x1) (st := []) dL_law_1567 lk_L_163 im_X10_jacobi se_X10_jacobi rfl rfl rfl rfl ⟨by decide, by decide⟩ (c_X10_jacobi cx.1 x1 r487 r488 r489) (fun r490 => ?_)
    refine sn_aload_n (y := m_L_law) (pc := 1570) dL_law_1570 rfl ?_
    refine sn_aload_n (y := m_L_law) (pc := 1571) dL_law_1571 rfl ?_
    refine sn_iload (y := m_L_law) (pc := 1572) dL_law_1572 rfl ?_
    refine sn_iconst (y := m_L_law) (pc := 1574) dL_law_1574 kc_iconst_1 ?_
    refine sn_iadd (y := m_L_law) (pc := 1575) dL_law_1575 ?_
    refine sn_sld (y := m_L_law) (pc := 1576) hX dL_law_1576 (fun r491 => ?_)
    refine sn_aload_n (y := m_L_law) (pc := 1577) dL_law_1577 rfl ?_
    refine sn_iload (y := m_L_law) (pc := 1578) dL_law_1578 rfl ?_
    refine sn_iconst (y := m_L_law) (pc := 1580) dL_law_1580 kc_iconst_2 ?_
    refine sn_iadd (y := m_L_law) (pc := 1581) dL_law_1581 ?_
    refine sn_sld (y := m_L_law) (pc := 1582) hX dL_law_1582 (fun r492 => ?_)
    refine sn_aload_n (y := m_L_law) (pc := 1583) dL_law_1583 rfl ?_
    refine sn_iload (y := m_L_law) (pc := 1584) dL_law_1584 rfl ?_
    refine sn_iconst (y := m_L_law) (pc := 1586) dL_law_1586 kc_iconst_3 ?_
    refine sn_iadd (y := m_L_law) (pc := 1587) dL_law_1587 ?_
    refine sn_sld (y := m_L_law) (pc := 1588) hX dL_law_1588 (fun r493 => ?_)
    refine sn_invV (y := m_L_law) (pc := 1589) ca_11 (av := [vI r491, vI r492, vI r493]) (o := x2) (st := [vI r490]) dL_law_1589 lk_L_167 im_X13_jacobi se_X13_jacobi rfl rfl rfl rfl ⟨by decide, by decide⟩ (c_X13_jacobi cx.1 x2 r491 r492 r493) (fun r494 => ?_)
    refine sn_icmp_eq (y := m_L_law) (pc := 1592) (tgt := 1916) dL_law_1592 (by decide) (fun _ => ?_) (fun _ => ?_)
    · refine sn_iinc (y := m_L_law) (pc := 1916) (v := x4 + 6) dL_law_1916 rfl (by rfl) rfl ?_
      refine sn_goto (y := m_L_law) (pc := 1919) (tgt := 23) dL_law_1919 (by decide) ?_
      exact sn_sub rfl (hk23 (x4 + 6))
    refine sn_iconst (y := m_L_law) (pc := 1595) dL_law_1595 kc_iconst_0 ?_
    exact sn_zreturnC (by decide) rfl dL_law_1596
  refine sn_tabC (v := (35 : Int32)) (n := 35) (tgt := 1597) (off := 1557) dL_law_40 (by decide) (by decide) rfl (by decide) ?_ (fun h35 => ?_)
  · refine sn_aload_n (y := m_L_law) (pc := 1597) dL_law_1597 rfl ?_
    refine sn_aload_n (y := m_L_law) (pc := 1598) dL_law_1598 rfl ?_
    refine sn_iload (y := m_L_law) (pc := 1599) dL_law_1599 rfl ?_
    refine sn_iconst (y := m_L_law) (pc := 1601) dL_law_1601 kc_iconst_1 ?_
    refine sn_iadd (y := m_L_law) (pc := 1602) dL_law_1602 ?_
    refine sn_sld (y := m_L_law) (pc := 1603) hX dL_law_1603 (fun r495 => ?_)
    refine sn_aload_n (y := m_L_law) (pc := 1604) dL_law_1604 rfl ?_
    refine sn_iload (y := m_L_law) (pc := 1605) dL_law_1605 rfl ?_
    refine sn_iconst (y := m_L_law) (pc := 1607) dL_law_1607 kc_iconst_2 ?_
    refine sn_iadd (y := m_L_law) (pc := 1608) dL_law_1608 ?_
    refine sn_sld (y := m_L_law) (pc := 1609) hX dL_law_1609 (fun r496 => ?_)
    refine sn_aload_n (y := m_L_law) (pc := 1610) dL_law_1610 rfl ?_
    refine sn_iload (y := m_L_law) (pc := 1611) dL_law_1611 rfl ?_
    refine sn_iconst (y := m_L_law) (pc := 1613) dL_law_1613 kc_iconst_3 ?_
    refine sn_iadd (y := m_L_law) (pc := 1614) dL_law_1614 ?_
    refine sn_sld (y := m_L_law) (pc := 1615) hX dL_law_1615 (fun r497 => ?_)
    refine sn_invV (y := m_L_law) (pc := 1616) ca_8 (av := [vI r495, vI r496, vI r497]) (o := x1) (st := []) dL_law_1616 lk_L_168 im_X10_add se_X10_add rfl rfl rfl rfl ⟨by decide, by decide⟩ (c_X10_add cx.1 x1 r495 r496 r497) (fun r498 => ?_)
    refine sn_aload_n (y := m_L_law) (pc := 1619) dL_law_1619 rfl ?_
    refine sn_aload_n (y := m_L_law) (pc := 1620) dL_law_1620 rfl ?_
    refine sn_iload (y := m_L_law) (pc := 1621) dL_law_1621 rfl ?_
    refine sn_iconst (y := m_L_law) (pc := 1623) dL_law_1623 kc_iconst_1 ?_
    refine sn_iadd (y := m_L_law) (pc := 1624) dL_law_1624 ?_
    refine sn_sld (y := m_L_law) (pc := 1625) hX dL_law_1625 (fun r499 => ?_)
    refine sn_aload_n (y := m_L_law) (pc := 1626) dL_law_1626 rfl ?_
    refine sn_iload (y := m_L_law) (pc := 1627) dL_law_1627 rfl ?_
    refine sn_iconst (y := m_L_law) (pc := 1629) dL_law_1629 kc_iconst_2 ?_
    refine sn_iadd (y := m_L_law) (pc := 1630) dL_law_1630 ?_
    refine sn_sld (y := m_L_law) (pc := 1631) hX dL_law_1631 (fun r500 => ?_)
    refine sn_aload_n (y := m_L_law) (pc := 1632) dL_law_1632 rfl ?_
    refine sn_iload (y := m_L_law) (pc := 1633) dL_law_1633 rfl ?_
    refine sn_iconst (y := m_L_law) (pc := 1635) dL_law_1635 kc_iconst_3 ?_
    refine sn_iadd (y := m_L_law) (pc := 1636) dL_law_1636 ?_
    refine sn_sld (y := m_L_law) (pc := 1637) hX dL_law_1637 (fun r501 => ?_)
    refine sn_invV (y := m_L_law) (pc := 1638) ca_11 (av := [vI r499, vI r500, vI r501]) (o := x2) (st := [vI r498]) dL_law_1638 lk_L_171 im_X13_add se_X13_add rfl rfl rfl rfl ⟨by decide, by decide⟩ (c_X13_add cx.1 x2 r499 r500 r501) (fun r502 => ?_)
    refine sn_icmp_eq (y := m_L_law) (pc := 1641) (tgt := 1916) dL_law_1641 (by decide) (fun _ => ?_) (fun _ => ?_)
    · refine sn_iinc (y := m_L_law) (pc := 1916) (v := x4 + 6) dL_law_1916 rfl (by rfl) rfl ?_
      refine sn_goto (y := m_L_law) (pc := 1919) (tgt := 23) dL_law_1919 (by decide) ?_
      exact sn_sub rfl (hk23 (x4 + 6))
    refine sn_iconst (y := m_L_law) (pc := 1644) dL_law_1644 kc_iconst_0 ?_
    exact sn_zreturnC (by decide) rfl dL_law_1645
  refine sn_tabC (v := (36 : Int32)) (n := 36) (tgt := 1646) (off := 1606) dL_law_40 (by decide) (by decide) rfl (by decide) ?_ (fun h36 => ?_)
  · refine sn_aload_n (y := m_L_law) (pc := 1646) dL_law_1646 rfl ?_
    refine sn_aload_n (y := m_L_law) (pc := 1647) dL_law_1647 rfl ?_
    refine sn_iload (y := m_L_law) (pc := 1648) dL_law_1648 rfl ?_
    refine sn_iconst (y := m_L_law) (pc := 1650) dL_law_1650 kc_iconst_1 ?_
    refine sn_iadd (y := m_L_law) (pc := 1651) dL_law_1651 ?_
    refine sn_sld (y := m_L_law) (pc := 1652) hX dL_law_1652 (fun r503 => ?_)
    refine sn_aload_n (y := m_L_law) (pc := 1653) dL_law_1653 rfl ?_
    refine sn_iload (y := m_L_law) (pc := 1654) dL_law_1654 rfl ?_
    refine sn_iconst (y := m_L_law) (pc := 1656) dL_law_1656 kc_iconst_2 ?_
    refine sn_iadd (y := m_L_law) (pc := 1657) dL_law_1657 ?_
    refine sn_sld (y := m_L_law) (pc := 1658) hX dL_law_1658 (fun r504 => ?_)
    refine sn_invV (y := m_L_law) (pc := 1659) ca_8 (av := [vI r503, vI r504]) (o := x1) (st := []) dL_law_1659 lk_L_172 im_X10_times se_X10_times rfl rfl rfl rfl ⟨by decide, by decide⟩ (c_X10_times cx.1 x1 r503 r504) (fun r505 => ?_)
    refine sn_aload_n (y := m_L_law) (pc := 1662) dL_law_1662 rfl ?_
    refine sn_aload_n (y := m_L_law) (pc := 1663) dL_law_1663 rfl ?_
    refine sn_iload (y := m_L_law) (pc := 1664) dL_law_1664 rfl ?_
    refine sn_iconst (y := m_L_law) (pc := 1666) dL_law_1666 kc_iconst_1 ?_
    refine sn_iadd (y := m_L_law) (pc := 1667) dL_law_1667 ?_
    refine sn_sld (y := m_L_law) (pc := 1668) hX dL_law_1668 (fun r506 => ?_)
    refine sn_aload_n (y := m_L_law) (pc := 1669) dL_law_1669 rfl ?_
    refine sn_iload (y := m_L_law) (pc := 1670) dL_law_1670 rfl ?_
    refine sn_iconst (y := m_L_law) (pc := 1672) dL_law_1672 kc_iconst_2 ?_
    refine sn_iadd (y := m_L_law) (pc := 1673) dL_law_1673 ?_
    refine sn_sld (y := m_L_law) (pc := 1674) hX dL_law_1674 (fun r507 => ?_)
    refine sn_invV (y := m_L_law) (pc := 1675) ca_11 (av := [vI r506, vI r507]) (o := x2) (st := [vI r505]) dL_law_1675 lk_L_175 im_X13_times se_X13_times rfl rfl rfl rfl ⟨by decide, by decide⟩ (c_X13_times cx.1 x2 r506 r507) (fun r508 => ?_)
    refine sn_icmp_eq (y := m_L_law) (pc := 1678) (tgt := 1916) dL_law_1678 (by decide) (fun _ => ?_) (fun _ => ?_)
    · refine sn_iinc (y := m_L_law) (pc := 1916) (v := x4 + 6) dL_law_1916 rfl (by rfl) rfl ?_
      refine sn_goto (y := m_L_law) (pc := 1919) (tgt := 23) dL_law_1919 (by decide) ?_
      exact sn_sub rfl (hk23 (x4 + 6))
    refine sn_iconst (y := m_L_law) (pc := 1681) dL_law_1681 kc_iconst_0 ?_
    exact sn_zreturnC (by decide) rfl dL_law_1682
  refine sn_tabC (v := (37 : Int32)) (n := 37) (tgt := 1683) (off := 1643) dL_law_40 (by decide) (by decide) rfl (by decide) ?_ (fun h37 => ?_)
  · refine sn_aload_n (y := m_L_law) (pc := 1683) dL_law_1683 rfl ?_
    refine sn_aload_n (y := m_L_law) (pc := 1684) dL_law_1684 rfl ?_
    refine sn_iload (y := m_L_law) (pc := 1685) dL_law_1685 rfl ?_
    refine sn_iconst (y := m_L_law) (pc := 1687) dL_law_1687 kc_iconst_1 ?_
    refine sn_iadd (y := m_L_law) (pc := 1688) dL_law_1688 ?_
    refine sn_sld (y := m_L_law) (pc := 1689) hX dL_law_1689 (fun r509 => ?_)
    refine sn_aload_n (y := m_L_law) (pc := 1690) dL_law_1690 rfl ?_
    refine sn_iload (y := m_L_law) (pc := 1691) dL_law_1691 rfl ?_
    refine sn_iconst (y := m_L_law) (pc := 1693) dL_law_1693 kc_iconst_2 ?_
    refine sn_iadd (y := m_L_law) (pc := 1694) dL_law_1694 ?_
    refine sn_sld (y := m_L_law) (pc := 1695) hX dL_law_1695 (fun r510 => ?_)
    refine sn_invV (y := m_L_law) (pc := 1696) ca_8 (av := [vI r509, vI r510]) (o := x1) (st := []) dL_law_1696 lk_L_176 im_X10_turn se_X10_turn rfl rfl rfl rfl ⟨by decide, by decide⟩ (c_X10_turn cx.1 x1 r509 r510) (fun r511 => ?_)
    refine sn_aload_n (y := m_L_law) (pc := 1699) dL_law_1699 rfl ?_
    refine sn_aload_n (y := m_L_law) (pc := 1700) dL_law_1700 rfl ?_
    refine sn_iload (y := m_L_law) (pc := 1701) dL_law_1701 rfl ?_
    refine sn_iconst (y := m_L_law) (pc := 1703) dL_law_1703 kc_iconst_1 ?_
    refine sn_iadd (y := m_L_law) (pc := 1704) dL_law_1704 ?_
    refine sn_sld (y := m_L_law) (pc := 1705) hX dL_law_1705 (fun r512 => ?_)
    refine sn_aload_n (y := m_L_law) (pc := 1706) dL_law_1706 rfl ?_
    refine sn_iload (y := m_L_law) (pc := 1707) dL_law_1707 rfl ?_
    refine sn_iconst (y := m_L_law) (pc := 1709) dL_law_1709 kc_iconst_2 ?_
    refine sn_iadd (y := m_L_law) (pc := 1710) dL_law_1710 ?_
    refine sn_sld (y := m_L_law) (pc := 1711) hX dL_law_1711 (fun r513 => ?_)
    refine sn_invV (y := m_L_law) (pc := 1712) ca_11 (av := [vI r512, vI r513]) (o := x2) (st := [vI r511]) dL_law_1712 lk_L_179 im_X13_turn se_X13_turn rfl rfl rfl rfl ⟨by decide, by decide⟩ (c_X13_turn cx.1 x2 r512 r513) (fun r514 => ?_)
    refine sn_icmp_eq (y := m_L_law) (pc := 1715) (tgt := 1916) dL_law_1715 (by decide) (fun _ => ?_) (fun _ => ?_)
    · refine sn_iinc (y := m_L_law) (pc := 1916) (v := x4 + 6) dL_law_1916 rfl (by rfl) rfl ?_
      refine sn_goto (y := m_L_law) (pc := 1919) (tgt := 23) dL_law_1919 (by decide) ?_
      exact sn_sub rfl (hk23 (x4 + 6))
    refine sn_iconst (y := m_L_law) (pc := 1718) dL_law_1718 kc_iconst_0 ?_
    exact sn_zreturnC (by decide) rfl dL_law_1719
  refine sn_tabC (v := (38 : Int32)) (n := 38) (tgt := 1720) (off := 1680) dL_law_40 (by decide) (by decide) rfl (by decide) ?_ (fun h38 => ?_)
  · refine sn_aload_n (y := m_L_law) (pc := 1720) dL_law_1720 rfl ?_
    refine sn_aload_n (y := m_L_law) (pc := 1721) dL_law_1721 rfl ?_
    refine sn_iload (y := m_L_law) (pc := 1722) dL_law_1722 rfl ?_
    refine sn_iconst (y := m_L_law) (pc := 1724) dL_law_1724 kc_iconst_1 ?_
    refine sn_iadd (y := m_L_law) (pc := 1725) dL_law_1725 ?_
    refine sn_sld (y := m_L_law) (pc := 1726) hX dL_law_1726 (fun r515 => ?_)
    refine sn_invV (y := m_L_law) (pc := 1727) ca_8 (av := [vI r515]) (o := x1) (st := []) dL_law_1727 lk_L_180 im_X10_size se_X10_size rfl rfl rfl rfl ⟨by decide, by decide⟩ (c_X10_size cx.1 x1 r515) (fun r516 => ?_)
    refine sn_aload_n (y := m_L_law) (pc := 1730) dL_law_1730 rfl ?_
    refine sn_aload_n (y := m_L_law) (pc := 1731) dL_law_1731 rfl ?_
    refine sn_iload (y := m_L_law) (pc := 1732) dL_law_1732 rfl ?_
    refine sn_iconst (y := m_L_law) (pc := 1734) dL_law_1734 kc_iconst_1 ?_
    refine sn_iadd (y := m_L_law) (pc := 1735) dL_law_1735 ?_
    refine sn_sld (y := m_L_law) (pc := 1736) hX dL_law_1736 (fun r517 => ?_)
    refine sn_invV (y := m_L_law) (pc := 1737) ca_11 (av := [vI r517]) (o := x2) (st := [vJ r516]) dL_law_1737 lk_L_184 im_X13_size se_X13_size rfl rfl rfl rfl ⟨by decide, by decide⟩ (c_X13_size cx.1 x2 r517) (fun r518 => ?_)
    refine sn_lc_eq (y := m_L_law) (pc := 1740) (tgt := 1916) dL_law_1740 dL_law_1741 (by decide) (fun _ => ?_) (fun _ => ?_)
    · refine sn_iinc (y := m_L_law) (pc := 1916) (v := x4 + 6) dL_law_1916 rfl (by rfl) rfl ?_
      refine sn_goto (y := m_L_law) (pc := 1919) (tgt := 23) dL_law_1919 (by decide) ?_
      exact sn_sub rfl (hk23 (x4 + 6))
    refine sn_iconst (y := m_L_law) (pc := 1744) dL_law_1744 kc_iconst_0 ?_
    exact sn_zreturnC (by decide) rfl dL_law_1745
  refine sn_tabC (v := (39 : Int32)) (n := 39) (tgt := 1746) (off := 1706) dL_law_40 (by decide) (by decide) rfl (by decide) ?_ (fun h39 => ?_)
  · refine sn_aload_n (y := m_L_law) (pc := 1746) dL_law_1746 rfl ?_
    refine sn_invV (y := m_L_law) (pc := 1747) ca_8 (av := []) (o := x1) (st := []) dL_law_1747 lk_L_185 im_X10_undo se_X10_undo rfl rfl rfl rfl ⟨by decide, by decide⟩ (c_X10_undo cx.1 x1) (fun r519 => ?_)
    refine sn_aload_n (y := m_L_law) (pc := 1750) dL_law_1750 rfl ?_
    refine sn_invV (y := m_L_law) (pc := 1751) ca_11 (av := []) (o := x2) (st := [vI r519]) dL_law_1751 lk_L_189 im_X13_undo se_X13_undo rfl rfl rfl rfl ⟨by decide, by decide⟩ (c_X13_undo cx.1 x2) (fun r520 => ?_)
    refine sn_icmp_eq (y := m_L_law) (pc := 1754) (tgt := 1916) dL_law_1754 (by decide) (fun _ => ?_) (fun _ => ?_)
    · refine sn_iinc (y := m_L_law) (pc := 1916) (v := x4 + 6) dL_law_1916 rfl (by rfl) rfl ?_
      refine sn_goto (y := m_L_law) (pc := 1919) (tgt := 23) dL_law_1919 (by decide) ?_
      exact sn_sub rfl (hk23 (x4 + 6))
    refine sn_iconst (y := m_L_law) (pc := 1757) dL_law_1757 kc_iconst_0 ?_
    exact sn_zreturnC (by decide) rfl dL_law_1758
  refine sn_tabC (v := (40 : Int32)) (n := 40) (tgt := 1759) (off := 1719) dL_law_40 (by decide) (by decide) rfl (by decide) ?_ (fun h40 => ?_)
  · refine sn_aload_n (y := m_L_law) (pc := 1759) dL_law_1759 rfl ?_
    refine sn_invV (y := m_L_law) (pc := 1760) ca_8 (av := []) (o := x1) (st := []) dL_law_1760 lk_L_190 im_X10_redo se_X10_redo rfl rfl rfl rfl ⟨by decide, by decide⟩ (c_X10_redo cx.1 x1) (fun r521 => ?_)
    refine sn_aload_n (y := m_L_law) (pc := 1763) dL_law_1763 rfl ?_
    refine sn_invV (y := m_L_law) (pc := 1764) ca_11 (av := []) (o := x2) (st := [vI r521]) dL_law_1764 lk_L_193 im_X13_redo se_X13_redo rfl rfl rfl rfl ⟨by decide, by decide⟩ (c_X13_redo cx.1 x2) (fun r522 => ?_)
    refine sn_icmp_eq (y := m_L_law) (pc := 1767) (tgt := 1916) dL_law_1767 (by decide) (fun _ => ?_) (fun _ => ?_)
    · refine sn_iinc (y := m_L_law) (pc := 1916) (v := x4 + 6) dL_law_1916 rfl (by rfl) rfl ?_
      refine sn_goto (y := m_L_law) (pc := 1919) (tgt := 23) dL_law_1919 (by decide) ?_
      exact sn_sub rfl (hk23 (x4 + 6))
    refine sn_iconst (y := m_L_law) (pc := 1770) dL_law_1770 kc_iconst_0 ?_
    exact sn_zreturnC (by decide) rfl dL_law_1771
  refine sn_tabC (v := (41 : Int32)) (n := 41) (tgt := 1772) (off := 1732) dL_law_40 (by decide) (by decide) rfl (by decide) ?_ (fun h41 => ?_)
  · refine sn_aload_n (y := m_L_law) (pc := 1772) dL_law_1772 rfl ?_
    refine sn_invV (y := m_L_law) (pc := 1773) ca_8 (av := []) (o := x1) (st := []) dL_law_1773 lk_L_194 im_X10_image se_X10_image rfl rfl rfl rfl ⟨by decide, by decide⟩ (c_X10_image cx.1 x1) (fun r523 => ?_)
    refine sn_aload_n (y := m_L_law) (pc := 1776) dL_law_1776 rfl ?_
    refine sn_invV (y := m_L_law) (pc := 1777) ca_11 (av := []) (o := x2) (st := [vI r523]) dL_law_1777 lk_L_197 im_X13_image se_X13_image rfl rfl rfl rfl ⟨by decide, by decide⟩ (c_X13_image cx.1 x2) (fun r524 => ?_)
    refine sn_icmp_eq (y := m_L_law) (pc := 1780) (tgt := 1916) dL_law_1780 (by decide) (fun _ => ?_) (fun _ => ?_)
    · refine sn_iinc (y := m_L_law) (pc := 1916) (v := x4 + 6) dL_law_1916 rfl (by rfl) rfl ?_
      refine sn_goto (y := m_L_law) (pc := 1919) (tgt := 23) dL_law_1919 (by decide) ?_
      exact sn_sub rfl (hk23 (x4 + 6))
    refine sn_iconst (y := m_L_law) (pc := 1783) dL_law_1783 kc_iconst_0 ?_
    exact sn_zreturnC (by decide) rfl dL_law_1784
  refine sn_tabC (v := (42 : Int32)) (n := 42) (tgt := 1785) (off := 1745) dL_law_40 (by decide) (by decide) rfl (by decide) ?_ (fun h42 => ?_)
  · refine sn_aload_n (y := m_L_law) (pc := 1785) dL_law_1785 rfl ?_
    refine sn_aload_n (y := m_L_law) (pc := 1786) dL_law_1786 rfl ?_
    refine sn_iload (y := m_L_law) (pc := 1787) dL_law_1787 rfl ?_
    refine sn_iconst (y := m_L_law) (pc := 1789) dL_law_1789 kc_iconst_1 ?_
    refine sn_iadd (y := m_L_law) (pc := 1790) dL_law_1790 ?_
    refine sn_sld (y := m_L_law) (pc := 1791) hX dL_law_1791 (fun r525 => ?_)
    refine sn_invV (y := m_L_law) (pc := 1792) ca_8 (av := [vI r525]) (o := x1) (st := []) dL_law_1792 lk_L_198 im_X10_restore se_X10_restore rfl rfl rfl rfl ⟨by decide, by decide⟩ (c_X10_restore cx.1 x1 r525) (fun r526 => ?_)
    refine sn_aload_n (y := m_L_law) (pc := 1795) dL_law_1795 rfl ?_
    refine sn_aload_n (y := m_L_law) (pc := 1796) dL_law_1796 rfl ?_
    refine sn_iload (y := m_L_law) (pc := 1797) dL_law_1797 rfl ?_
    refine sn_iconst (y := m_L_law) (pc := 1799) dL_law_1799 kc_iconst_1 ?_
    refine sn_iadd (y := m_L_law) (pc := 1800) dL_law_1800 ?_
    refine sn_sld (y := m_L_law) (pc := 1801) hX dL_law_1801 (fun r527 => ?_)
    refine sn_invV (y := m_L_law) (pc := 1802) ca_11 (av := [vI r527]) (o := x2) (st := [vI r526]) dL_law_1802 lk_L_201 im_X13_restore se_X13_restore rfl rfl rfl rfl ⟨by decide, by decide⟩ (c_X13_restore cx.1 x2 r527) (fun r528 => ?_)
    refine sn_icmp_eq (y := m_L_law) (pc := 1805) (tgt := 1916) dL_law_1805 (by decide) (fun _ => ?_) (fun _ => ?_)
    · refine sn_iinc (y := m_L_law) (pc := 1916) (v := x4 + 6) dL_law_1916 rfl (by rfl) rfl ?_
      refine sn_goto (y := m_L_law) (pc := 1919) (tgt := 23) dL_law_1919 (by decide) ?_
      exact sn_sub rfl (hk23 (x4 + 6))
    refine sn_iconst (y := m_L_law) (pc := 1808) dL_law_1808 kc_iconst_0 ?_
    exact sn_zreturnC (by decide) rfl dL_law_1809
  refine sn_tabC (v := (43 : Int32)) (n := 43) (tgt := 1810) (off := 1770) dL_law_40 (by decide) (by decide) rfl (by decide) ?_ (fun h43 => ?_)
  · refine sn_aload_n (y := m_L_law) (pc := 1810) dL_law_1810 rfl ?_
    refine sn_aload_n (y := m_L_law) (pc := 1811) dL_law_1811 rfl ?_
    refine sn_iload (y := m_L_law) (pc := 1812) dL_law_1812 rfl ?_
    refine sn_iconst (y := m_L_law) (pc := 1814) dL_law_1814 kc_iconst_1 ?_
    refine sn_iadd (y := m_L_law) (pc := 1815) dL_law_1815 ?_
    refine sn_sld (y := m_L_law) (pc := 1816) hX dL_law_1816 (fun r529 => ?_)
    refine sn_aload_n (y := m_L_law) (pc := 1817) dL_law_1817 rfl ?_
    refine sn_iload (y := m_L_law) (pc := 1818) dL_law_1818 rfl ?_
    refine sn_iconst (y := m_L_law) (pc := 1820) dL_law_1820 kc_iconst_2 ?_
    refine sn_iadd (y := m_L_law) (pc := 1821) dL_law_1821 ?_
    refine sn_sld (y := m_L_law) (pc := 1822) hX dL_law_1822 (fun r530 => ?_)
    refine sn_aload_n (y := m_L_law) (pc := 1823) dL_law_1823 rfl ?_
    refine hled _ _ _ _ _ _ (fun r531 => ?_)
    refine sn_istore (y := m_L_law) (pc := 1827) dL_law_1827 rfl ?_
    refine sn_aload_n (y := m_L_law) (pc := 1829) dL_law_1829 rfl ?_
    refine sn_aload_n (y := m_L_law) (pc := 1830) dL_law_1830 rfl ?_
    refine sn_iload (y := m_L_law) (pc := 1831) dL_law_1831 rfl ?_
    refine sn_iconst (y := m_L_law) (pc := 1833) dL_law_1833 kc_iconst_1 ?_
    refine sn_iadd (y := m_L_law) (pc := 1834) dL_law_1834 ?_
    refine sn_sld (y := m_L_law) (pc := 1835) hX dL_law_1835 (fun r532 => ?_)
    refine sn_aload_n (y := m_L_law) (pc := 1836) dL_law_1836 rfl ?_
    refine sn_iload (y := m_L_law) (pc := 1837) dL_law_1837 rfl ?_
    refine sn_iconst (y := m_L_law) (pc := 1839) dL_law_1839 kc_iconst_2 ?_
    refine sn_iadd (y := m_L_law) (pc := 1840) dL_law_1840 ?_
    refine sn_sld (y := m_L_law) (pc := 1841) hX dL_law_1841 (fun r533 => ?_)
    refine sn_invV (y := m_L_law) (pc := 1842) ca_11 (av := [vI r532, vI r533]) (o := x2) (st := []) dL_law_1842 lk_L_207 im_X13_led se_X13_led rfl rfl rfl rfl ⟨by decide, by decide⟩ (c_X13_led cx.1 x2 r532 r533) (fun r534 => ?_)
    refine sn_istore (y := m_L_law) (pc := 1845) dL_law_1845 rfl ?_
    refine sn_aload_n (y := m_L_law) (pc := 1847) dL_law_1847 rfl ?_
    refine sn_invV (y := m_L_law) (pc := 1848) ca_11 (av := []) (o := x2) (st := []) dL_law_1848 lk_L_208 im_X13_thrown se_X13_thrown rfl rfl rfl rfl ⟨by decide, by decide⟩ (c_X13_thrown cx.1 x2) (fun r535 => ?_)
    refine sn_iload (y := m_L_law) (pc := 1851) dL_law_1851 rfl ?_
    refine sn_icmp_eq (y := m_L_law) (pc := 1853) (tgt := 1858) dL_law_1853 (by decide) (fun _ => ?_) (fun _ => ?_)
    · refine sn_iload (y := m_L_law) (pc := 1858) dL_law_1858 rfl ?_
      refine sn_if_ne (y := m_L_law) (pc := 1860) (tgt := 1875) dL_law_1860 (by decide) (fun _ => ?_) (fun _ => ?_)
      · refine sn_goto (y := m_L_law) (pc := 1875) (tgt := 1916) dL_law_1875 (by decide) ?_
        refine sn_iinc (y := m_L_law) (pc := 1916) (v := x4 + 6) dL_law_1916 rfl (by rfl) rfl ?_
        refine sn_goto (y := m_L_law) (pc := 1919) (tgt := 23) dL_law_1919 (by decide) ?_
        exact sn_sub rfl (hk23 (x4 + 6))
      refine sn_aload_n (y := m_L_law) (pc := 1863) dL_law_1863 rfl ?_
      refine sn_iconst (y := m_L_law) (pc := 1864) dL_law_1864 kc_iconst_0 ?_
      refine sn_laload (y := m_L_law) (pc := 1865) dL_law_1865 (fun r536 => ?_)
      refine sn_iload (y := m_L_law) (pc := 1866) dL_law_1866 rfl ?_
      refine sn_i2l (y := m_L_law) (pc := 1868) dL_law_1868 ?_
      refine sn_lc_eq (y := m_L_law) (pc := 1869) (tgt := 1875) dL_law_1869 dL_law_1870 (by decide) (fun _ => ?_) (fun _ => ?_)
      · refine sn_goto (y := m_L_law) (pc := 1875) (tgt := 1916) dL_law_1875 (by decide) ?_
        refine sn_iinc (y := m_L_law) (pc := 1916) (v := x4 + 6) dL_law_1916 rfl (by rfl) rfl ?_
        refine sn_goto (y := m_L_law) (pc := 1919) (tgt := 23) dL_law_1919 (by decide) ?_
        exact sn_sub rfl (hk23 (x4 + 6))
      refine sn_iconst (y := m_L_law) (pc := 1873) dL_law_1873 kc_iconst_0 ?_
      exact sn_zreturnC (by decide) rfl dL_law_1874
    refine sn_iconst (y := m_L_law) (pc := 1856) dL_law_1856 kc_iconst_0 ?_
    exact sn_zreturnC (by decide) rfl dL_law_1857
  refine sn_tabC (v := (44 : Int32)) (n := 44) (tgt := 1878) (off := 1838) dL_law_40 (by decide) (by decide) rfl (by decide) ?_ (fun h44 => ?_)
  · refine sn_aload_n (y := m_L_law) (pc := 1878) dL_law_1878 rfl ?_
    refine sn_aload_n (y := m_L_law) (pc := 1879) dL_law_1879 rfl ?_
    refine sn_iload (y := m_L_law) (pc := 1880) dL_law_1880 rfl ?_
    refine sn_iconst (y := m_L_law) (pc := 1882) dL_law_1882 kc_iconst_1 ?_
    refine sn_iadd (y := m_L_law) (pc := 1883) dL_law_1883 ?_
    refine sn_sld (y := m_L_law) (pc := 1884) hX dL_law_1884 (fun r537 => ?_)
    refine sn_invV (y := m_L_law) (pc := 1885) ca_8 (av := [vI r537]) (o := x1) (st := []) dL_law_1885 lk_L_211 im_X10_told se_X10_told rfl rfl rfl rfl ⟨by decide, by decide⟩ (c_X10_told cx.1 x1 r537) (fun r538 => ?_)
    refine sn_aload_n (y := m_L_law) (pc := 1888) dL_law_1888 rfl ?_
    refine sn_aload_n (y := m_L_law) (pc := 1889) dL_law_1889 rfl ?_
    refine sn_iload (y := m_L_law) (pc := 1890) dL_law_1890 rfl ?_
    refine sn_iconst (y := m_L_law) (pc := 1892) dL_law_1892 kc_iconst_1 ?_
    refine sn_iadd (y := m_L_law) (pc := 1893) dL_law_1893 ?_
    refine sn_sld (y := m_L_law) (pc := 1894) hX dL_law_1894 (fun r539 => ?_)
    refine sn_invV (y := m_L_law) (pc := 1895) ca_11 (av := [vI r539]) (o := x2) (st := [vI r538]) dL_law_1895 lk_L_214 im_X13_told se_X13_told rfl rfl rfl rfl ⟨by decide, by decide⟩ (c_X13_told cx.1 x2 r539) (fun r540 => ?_)
    refine sn_icmp_eq (y := m_L_law) (pc := 1898) (tgt := 1916) dL_law_1898 (by decide) (fun _ => ?_) (fun _ => ?_)
    · refine sn_iinc (y := m_L_law) (pc := 1916) (v := x4 + 6) dL_law_1916 rfl (by rfl) rfl ?_
      refine sn_goto (y := m_L_law) (pc := 1919) (tgt := 23) dL_law_1919 (by decide) ?_
      exact sn_sub rfl (hk23 (x4 + 6))
    refine sn_iconst (y := m_L_law) (pc := 1901) dL_law_1901 kc_iconst_0 ?_
    exact sn_zreturnC (by decide) rfl dL_law_1902
  refine sn_tabC (v := (45 : Int32)) (n := 45) (tgt := 1903) (off := 1863) dL_law_40 (by decide) (by decide) rfl (by decide) ?_ (fun h45 => ?_)
  · refine sn_aload_n (y := m_L_law) (pc := 1903) dL_law_1903 rfl ?_
    refine sn_invV (y := m_L_law) (pc := 1904) ca_8 (av := []) (o := x1) (st := []) dL_law_1904 lk_L_215 im_X10_trouble se_X10_trouble rfl rfl rfl rfl ⟨by decide, by decide⟩ (c_X10_trouble cx.1 x1) (fun r541 => ?_)
    refine sn_aload_n (y := m_L_law) (pc := 1907) dL_law_1907 rfl ?_
    refine sn_invV (y := m_L_law) (pc := 1908) ca_11 (av := []) (o := x2) (st := [vI r541]) dL_law_1908 lk_L_218 im_X13_trouble se_X13_trouble rfl rfl rfl rfl ⟨by decide, by decide⟩ (c_X13_trouble cx.1 x2) (fun r542 => ?_)
    refine sn_icmp_eq (y := m_L_law) (pc := 1911) (tgt := 1916) dL_law_1911 (by decide) (fun _ => ?_) (fun _ => ?_)
    · refine sn_iinc (y := m_L_law) (pc := 1916) (v := x4 + 6) dL_law_1916 rfl (by rfl) rfl ?_
      refine sn_goto (y := m_L_law) (pc := 1919) (tgt := 23) dL_law_1919 (by decide) ?_
      exact sn_sub rfl (hk23 (x4 + 6))
    refine sn_iconst (y := m_L_law) (pc := 1914) dL_law_1914 kc_iconst_0 ?_
    exact sn_zreturnC (by decide) rfl dL_law_1915
  refine sn_tabD (tgt := 1916) dL_law_40 (by omega) (by decide) ?_
  refine sn_iinc (y := m_L_law) (pc := 1916) (v := x4 + 6) dL_law_1916 rfl (by rfl) rfl ?_
  refine sn_goto (y := m_L_law) (pc := 1919) (tgt := 23) dL_law_1919 (by decide) ?_
  exact sn_sub rfl (hk23 (x4 + 6))
set_option maxRecDepth 100000 in
theorem s_L_law_l23 {cx : CX} {xs : Nat → Int32} {L : Nat} (hX : Scr cx xs L) (hled : LedOk cx) (x1 : (Option Nat)) (x2 : (Option Nat)) (x3 : (Option Nat)) (x4 : Int32) : Sn cx m_L_law eI 23 [(4, vI x4), (0, vA ((some 2))), (1, vA x1), (2, vA x2), (3, vA x3)] [] (f_L_law_l23 xs L x1 x2 x3 x4) :=
  sn_lq1 (L := fun x4 => [(4, vI x4), (0, vA ((some 2))), (1, vA x1), (2, vA x2), (3, vA x3)]) (fun k hk x4 => s_L_law_b23 hX hled x1 x2 x3 hk x4) fuel x4
def f_L_law (xs : Nat → Int32) (L : Nat) : Mo Int32 :=
  mBd (mNew 8) (fun r1 => mBd (mCk 8 r1 (f_X10_init r1)) (fun _ => mBd (mNew 11) (fun r2 => mBd (mCk 11 r2 (f_X13_init r2)) (fun _ => mBd (mNewA 2 (1 : Int32)) (fun r3 => f_L_law_l23 xs L r1 r2 r3 (0 : Int32))))))
set_option maxRecDepth 100000 in
theorem s_L_law {cx : CX} {xs : Nat → Int32} {L : Nat} (hX : Scr cx xs L) (hled : LedOk cx) : Sn cx m_L_law eI 0 [(0, vA ((some 2)))] [] (f_L_law xs L) := by
  refine sn_new (y := m_L_law) (pc := 0) ca_8 nk_L_8 dL_law_0 (fun r1 => ?_)
  refine sn_dup (y := m_L_law) (pc := 3) rfl dL_law_3 ?_
  refine sn_invI (y := m_L_law) (pc := 4) (c := 8) (av := []) (o := r1) (st := [vA r1]) dL_law_4 (Or.inl lk_L_15) im_X10_init rfl rfl rfl rfl rfl ⟨by decide, by decide⟩ (c_X10_init cx.1 r1) (fun _ => ?_)
  refine sn_astore_n (y := m_L_law) (pc := 7) dL_law_7 rfl ?_
  refine sn_new (y := m_L_law) (pc := 8) ca_11 nk_L_16 dL_law_8 (fun r2 => ?_)
  refine sn_dup (y := m_L_law) (pc := 11) rfl dL_law_11 ?_
  refine sn_invI (y := m_L_law) (pc := 12) (c := 11) (av := []) (o := r2) (st := [vA r2]) dL_law_12 (Or.inl lk_L_18) im_X13_init rfl rfl rfl rfl rfl ⟨by decide, by decide⟩ (c_X13_init cx.1 r2) (fun _ => ?_)
  refine sn_astore_n (y := m_L_law) (pc := 15) dL_law_15 rfl ?_
  refine sn_iconst (y := m_L_law) (pc := 16) dL_law_16 kc_iconst_1 ?_
  refine sn_newarray (y := m_L_law) (pc := 17) (t := 2) rfl (Or.inr (Or.inl rfl)) ac_long dL_law_17 (fun r3 => ?_)
  refine sn_astore_n (y := m_L_law) (pc := 19) dL_law_19 rfl ?_
  refine sn_iconst (y := m_L_law) (pc := 20) dL_law_20 kc_iconst_0 ?_
  refine sn_istore (y := m_L_law) (pc := 21) dL_law_21 rfl ?_
  exact sn_sub rfl (s_L_law_l23 hX hled r1 r2 r3 (0 : Int32))
