/-! ===== the tables' words, classes, links ===== -/
theorem gw_in {w : Cond} (i : Nat) (h : lw_tbl[i]? = some w) (hg : goodWord w = true) : w ∈ gws := List.mem_filter.mpr ⟨List.mem_of_getElem? h, hg⟩
theorem gw_all {ws : List Cond} (h : ws.all (fun w => decide (w ∈ lw_tbl) && goodWord w) = true) : ∀ w ∈ ws, w ∈ gws := fun w hw => by
  have h1 := List.all_eq_true.mp h w hw
  rw [Bool.and_eq_true, decide_eq_true_eq] at h1
  exact List.mem_filter.mpr h1
theorem cn_bad {α : Type} {g : Gl} {y : MD} {enc : α → Option LV} {av : List LV} {F : Mo α} (h : ∀ h r h', F h = some (r, h') → False) : Cn g y enc av F := ⟨fun _ h1 r h' e => (h h1 r h' e).elim, fun h1 r h' e => (h h1 r h' e).elim⟩
theorem sn_zreturnC {cx : CX} {y : MD} {pc : Nat} {ls : List (Nat × LV)} {x : Int32} (hx : x = 0 ∨ x = 1) (hr : y.2.2.2.2.1 = some .boolean) (d : decode y.2.2.1 pc = .ok (.ireturn, 1)) : Sn cx y eI pc ls [vI x] (mRt x) := by
  have h := sn_zreturn (cx := cx) (ls := ls) (x := x) hr d
  rw [mRq_t hx] at h
  exact h
theorem ca_0 : CA 0 RX0 TX0 11 tyX0 := ⟨rfl, rfl, gw_all (by decide +kernel), tyX0_ok, by decide +kernel, nmX0, by decide +kernel⟩
theorem ca_1 : CA 1 RX1 TX1 7 tyX1 := ⟨rfl, rfl, gw_all (by decide +kernel), tyX1_ok, by decide +kernel, nmX1, by decide +kernel⟩
theorem ca_2 : CA 2 RX2 TX2 5 tyX2 := ⟨rfl, rfl, gw_all (by decide +kernel), tyX2_ok, by decide +kernel, nmX2, by decide +kernel⟩
theorem ca_3 : CA 3 RX3 TX3 14 tyX3 := ⟨rfl, rfl, gw_all (by decide +kernel), tyX3_ok, by decide +kernel, nmX3, by decide +kernel⟩
theorem ca_4 : CA 4 RX4 TX4 6 tyX4 := ⟨rfl, rfl, gw_all (by decide +kernel), tyX4_ok, by decide +kernel, nmX4, by decide +kernel⟩
theorem ca_5 : CA 5 RX5 TX5 1 tyX5 := ⟨rfl, rfl, gw_all (by decide +kernel), tyX5_ok, by decide +kernel, nmX5, by decide +kernel⟩
theorem ca_6 : CA 6 RX7 TX7 3 tyX7 := ⟨rfl, rfl, gw_all (by decide +kernel), tyX7_ok, by decide +kernel, nmX7, by decide +kernel⟩
theorem ca_7 : CA 7 RX9 TX9 11 tyX9 := ⟨rfl, rfl, gw_all (by decide +kernel), tyX9_ok, by decide +kernel, nmX9, by decide +kernel⟩
theorem ca_8 : CA 8 RX10 TX10 12 tyX10 := ⟨rfl, rfl, gw_all (by decide +kernel), tyX10_ok, by decide +kernel, nmX10, by decide +kernel⟩
theorem ca_9 : CA 9 RX11 TX11 15 tyX11 := ⟨rfl, rfl, gw_all (by decide +kernel), tyX11_ok, by decide +kernel, nmX11, by decide +kernel⟩
theorem ca_10 : CA 10 RX12 TX12 6 tyX12 := ⟨rfl, rfl, gw_all (by decide +kernel), tyX12_ok, by decide +kernel, nmX12, by decide +kernel⟩
theorem ca_11 : CA 11 RX13 TX13 31 tyX13 := ⟨rfl, rfl, gw_all (by decide +kernel), tyX13_ok, by decide +kernel, nmX13, by decide +kernel⟩
abbrev m_X2_init : MD := (RX2, yX2_init, cX2_init, 1, (Option.none : Option Jvm.ClassFile.FieldType), 2, 30)
abbrev m_X1_init : MD := (RX1, yX1_init, cX1_init, 1, (Option.none : Option Jvm.ClassFile.FieldType), 2, 30)
abbrev m_X0_init : MD := (RX0, yX0_init, cX0_init, 2, (Option.none : Option Jvm.ClassFile.FieldType), 3, 50)
abbrev m_X0_empty : MD := (RX0, yX0_empty, cX0_empty, 1, (Option.none : Option Jvm.ClassFile.FieldType), 2, 30)
abbrev m_X0_fieldsHeld : MD := (RX0, yX0_fieldsHeld, cX0_fieldsHeld, 1, (Option.some Jvm.ClassFile.FieldType.int), 2, 30)
abbrev m_X0_equationsHeld : MD := (RX0, yX0_equationsHeld, cX0_equationsHeld, 1, (Option.some Jvm.ClassFile.FieldType.int), 2, 30)
abbrev m_X0_letsHeld : MD := (RX0, yX0_letsHeld, cX0_letsHeld, 1, (Option.some Jvm.ClassFile.FieldType.int), 2, 30)
abbrev m_X0_fieldAt : MD := (RX0, yX0_fieldAt, cX0_fieldAt, 2, (Option.some (Jvm.ClassFile.FieldType.object "TurningSums$Field")), 2, 30)
abbrev m_X0_equationAt : MD := (RX0, yX0_equationAt, cX0_equationAt, 2, (Option.some (Jvm.ClassFile.FieldType.object "TurningSums$Equation")), 2, 30)
abbrev m_X6_cell : MD := (RX6, yX6_cell, cX6_cell, 2, (Option.some Jvm.ClassFile.FieldType.int), 2, 30)
abbrev m_X0_letFieldAt : MD := (RX0, yX0_letFieldAt, cX0_letFieldAt, 2, (Option.some Jvm.ClassFile.FieldType.int), 3, 51)
abbrev m_X6_rowAt : MD := (RX6, yX6_rowAt, cX6_rowAt, 2, (Option.some (Jvm.ClassFile.FieldType.array Jvm.ClassFile.FieldType.long)), 2, 30)
abbrev m_X0_letRowAt : MD := (RX0, yX0_letRowAt, cX0_letRowAt, 2, (Option.some (Jvm.ClassFile.FieldType.array Jvm.ClassFile.FieldType.long)), 3, 51)
abbrev m_X0_rankOf : MD := (RX0, yX0_rankOf, cX0_rankOf, 4, (Option.some Jvm.ClassFile.FieldType.int), 2, 30)
abbrev m_X0_knows : MD := (RX0, yX0_knows, cX0_knows, 3, (Option.some Jvm.ClassFile.FieldType.boolean), 3, 53)
abbrev m_X0_find : MD := (RX0, yX0_find, cX0_find, 5, (Option.some Jvm.ClassFile.FieldType.int), 3, 53)
abbrev m_X6_put : MD := (RX6, yX6_put, cX6_put, 4, (Option.none : Option Jvm.ClassFile.FieldType), 2, 30)
abbrev m_X6_mark : MD := (RX6, yX6_mark, cX6_mark, 3, (Option.none : Option Jvm.ClassFile.FieldType), 2, 30)
abbrev m_X0_tell : MD := (RX0, yX0_tell, cX0_tell, 5, (Option.none : Option Jvm.ClassFile.FieldType), 3, 53)
abbrev m_X6_mod : MD := (RX6, yX6_mod, cX6_mod, 4, (Option.some Jvm.ClassFile.FieldType.int), 2, 30)
abbrev m_X2_fillPowers : MD := (RX2, yX2_fillPowers, cX2_fillPowers, 4, (Option.some Jvm.ClassFile.FieldType.boolean), 3, 53)
abbrev m_X2_become : MD := (RX2, yX2_become, cX2_become, 4, (Option.none : Option Jvm.ClassFile.FieldType), 4, 76)
abbrev m_X0_tellField : MD := (RX0, yX0_tellField, cX0_tellField, 5, (Option.none : Option Jvm.ClassFile.FieldType), 5, 99)
abbrev m_X0_nextEquation : MD := (RX0, yX0_nextEquation, cX0_nextEquation, 1, (Option.some (Jvm.ClassFile.FieldType.object "TurningSums$Equation")), 2, 30)
abbrev m_X0_tellEquation : MD := (RX0, yX0_tellEquation, cX0_tellEquation, 3, (Option.none : Option Jvm.ClassFile.FieldType), 4, 77)
abbrev m_X6_copy : MD := (RX6, yX6_copy, cX6_copy, 3, (Option.none : Option Jvm.ClassFile.FieldType), 2, 30)
abbrev m_X0_tellLet : MD := (RX0, yX0_tellLet, cX0_tellLet, 5, (Option.none : Option Jvm.ClassFile.FieldType), 4, 77)
abbrev m_X1_begin : MD := (RX1, yX1_begin, cX1_begin, 2, (Option.none : Option Jvm.ClassFile.FieldType), 2, 30)
abbrev m_X1_append : MD := (RX1, yX1_append, cX1_append, 3, (Option.none : Option Jvm.ClassFile.FieldType), 3, 52)
abbrev m_X1_close : MD := (RX1, yX1_close, cX1_close, 2, (Option.none : Option Jvm.ClassFile.FieldType), 2, 30)
abbrev m_X1_isFull : MD := (RX1, yX1_isFull, cX1_isFull, 1, (Option.some Jvm.ClassFile.FieldType.boolean), 2, 30)
abbrev m_X1_prime : MD := (RX1, yX1_prime, cX1_prime, 1, (Option.some Jvm.ClassFile.FieldType.int), 2, 30)
abbrev m_X1_result : MD := (RX1, yX1_result, cX1_result, 1, (Option.some Jvm.ClassFile.FieldType.int), 2, 30)
abbrev m_X1_valueAt : MD := (RX1, yX1_valueAt, cX1_valueAt, 5, (Option.some Jvm.ClassFile.FieldType.int), 3, 53)
abbrev m_X6_setWhole : MD := (RX6, yX6_setWhole, cX6_setWhole, 4, (Option.none : Option Jvm.ClassFile.FieldType), 2, 30)
abbrev m_X6_at : MD := (RX6, yX6_at, cX6_at, 2, (Option.some Jvm.ClassFile.FieldType.long), 2, 30)
abbrev m_X1_spread : MD := (RX1, yX1_spread, cX1_spread, 8, (Option.none : Option Jvm.ClassFile.FieldType), 4, 77)
abbrev m_X1_ways : MD := (RX1, yX1_ways, cX1_ways, 5, (Option.some Jvm.ClassFile.FieldType.int), 5, 104)
abbrev m_X2_prime : MD := (RX2, yX2_prime, cX2_prime, 1, (Option.some Jvm.ClassFile.FieldType.int), 2, 30)
abbrev m_X2_order : MD := (RX2, yX2_order, cX2_order, 1, (Option.some Jvm.ClassFile.FieldType.int), 2, 30)
abbrev m_X2_root : MD := (RX2, yX2_root, cX2_root, 1, (Option.some Jvm.ClassFile.FieldType.int), 3, 51)
abbrev m_X5_lengthOf : MD := (RX5, yX5_lengthOf, cX5_lengthOf, 1, (Option.some Jvm.ClassFile.FieldType.int), 2, 30)
abbrev m_X2_rowLength : MD := (RX2, yX2_rowLength, cX2_rowLength, 1, (Option.some Jvm.ClassFile.FieldType.int), 3, 50)
abbrev m_X2_hasUnit : MD := (RX2, yX2_hasUnit, cX2_hasUnit, 2, (Option.some Jvm.ClassFile.FieldType.boolean), 2, 30)
abbrev m_X2_hasNumber : MD := (RX2, yX2_hasNumber, cX2_hasNumber, 2, (Option.some Jvm.ClassFile.FieldType.boolean), 2, 30)
abbrev m_X2_hasCharacter : MD := (RX2, yX2_hasCharacter, cX2_hasCharacter, 2, (Option.some Jvm.ClassFile.FieldType.boolean), 2, 30)
abbrev m_X8_commonPart : MD := (RX8, yX8_commonPart, cX8_commonPart, 3, (Option.some Jvm.ClassFile.FieldType.int), 2, 30)
abbrev m_X2_hasTurn : MD := (RX2, yX2_hasTurn, cX2_hasTurn, 2, (Option.some Jvm.ClassFile.FieldType.boolean), 3, 52)
abbrev m_X2_logOf : MD := (RX2, yX2_logOf, cX2_logOf, 2, (Option.some Jvm.ClassFile.FieldType.int), 3, 51)
abbrev m_X2_characterAt : MD := (RX2, yX2_characterAt, cX2_characterAt, 3, (Option.some Jvm.ClassFile.FieldType.int), 3, 53)
abbrev m_X5_clear : MD := (RX5, yX5_clear, cX5_clear, 1, (Option.none : Option Jvm.ClassFile.FieldType), 3, 53)
abbrev m_J9_floorMod_7cf53 : MD := (RJ9, yJ9_floorMod_7cf53, cJ9_floorMod_7cf53, 3, (Option.some Jvm.ClassFile.FieldType.int), 2, 30)
abbrev m_X5_collect : MD := (RX5, yX5_collect, cX5_collect, 6, (Option.none : Option Jvm.ClassFile.FieldType), 3, 52)
abbrev m_X5_settle : MD := (RX5, yX5_settle, cX5_settle, 9, (Option.none : Option Jvm.ClassFile.FieldType), 3, 53)
abbrev m_X2_jacobiSum : MD := (RX2, yX2_jacobiSum, cX2_jacobiSum, 8, (Option.none : Option Jvm.ClassFile.FieldType), 4, 81)
abbrev m_X2_partOf : MD := (RX2, yX2_partOf, cX2_partOf, 9, (Option.some Jvm.ClassFile.FieldType.int), 4, 70)
abbrev m_X2_isPower : MD := (RX2, yX2_isPower, cX2_isPower, 3, (Option.some Jvm.ClassFile.FieldType.boolean), 4, 72)
abbrev m_X2_meetings : MD := (RX2, yX2_meetings, cX2_meetings, 5, (Option.some Jvm.ClassFile.FieldType.int), 4, 72)
abbrev m_X2_isOrderPower : MD := (RX2, yX2_isOrderPower, cX2_isOrderPower, 2, (Option.some Jvm.ClassFile.FieldType.boolean), 4, 72)
abbrev m_X2_evenness : MD := (RX2, yX2_evenness, cX2_evenness, 4, (Option.some Jvm.ClassFile.FieldType.int), 5, 93)
abbrev m_X2_powerOfRank : MD := (RX2, yX2_powerOfRank, cX2_powerOfRank, 4, (Option.some Jvm.ClassFile.FieldType.int), 5, 93)
abbrev m_X2_oppositePair : MD := (RX2, yX2_oppositePair, cX2_oppositePair, 4, (Option.some Jvm.ClassFile.FieldType.int), 4, 75)
abbrev m_X5_multiply : MD := (RX5, yX5_multiply, cX5_multiply, 8, (Option.none : Option Jvm.ClassFile.FieldType), 4, 81)
abbrev m_X2_liftedSum : MD := (RX2, yX2_liftedSum, cX2_liftedSum, 8, (Option.some Jvm.ClassFile.FieldType.long), 5, 108)
abbrev m_X2_pointsOfCurve : MD := (RX2, yX2_pointsOfCurve, cX2_pointsOfCurve, 9, (Option.some Jvm.ClassFile.FieldType.long), 6, 135)
abbrev m_J0_coder_7d493 : MD := (RJ0, yJ0_coder_7d493, cJ0_coder_7d493, 1, (Option.some Jvm.ClassFile.FieldType.byte), 2, 30)
abbrev m_J0_length_8abf5 : MD := (RJ0, yJ0_length_8abf5, cJ0_length_8abf5, 1, (Option.some Jvm.ClassFile.FieldType.int), 3, 50)
abbrev m_J0_isLatin1_aae02 : MD := (RJ0, yJ0_isLatin1_aae02, cJ0_isLatin1_aae02, 1, (Option.some Jvm.ClassFile.FieldType.boolean), 2, 30)
abbrev m_J3_checkIndex_8e157 : MD := (RJ3, yJ3_checkIndex_8e157, cJ3_checkIndex_8e157, 3, (Option.some Jvm.ClassFile.FieldType.int), 2, 30)
abbrev m_J0_checkIndex_df160 : MD := (RJ0, yJ0_checkIndex_df160, cJ0_checkIndex_df160, 2, (Option.none : Option Jvm.ClassFile.FieldType), 3, 52)
abbrev m_J1_charAt_3b067 : MD := (RJ1, yJ1_charAt_3b067, cJ1_charAt_3b067, 2, (Option.some Jvm.ClassFile.FieldType.char), 4, 73)
abbrev m_J0_charAt_5068e : MD := (RJ0, yJ0_charAt_5068e, cJ0_charAt_5068e, 2, (Option.some Jvm.ClassFile.FieldType.char), 5, 94)
abbrev m_X9_withLetter : MD := (RX9, yX9_withLetter, cX9_withLetter, 3, (Option.some Jvm.ClassFile.FieldType.long), 2, 30)
abbrev m_X9_init : MD := (RX9, yX9_init, cX9_init, 4, (Option.none : Option Jvm.ClassFile.FieldType), 6, 115)
abbrev m_X5_init : MD := (RX5, yX5_init, cX5_init, 1, (Option.none : Option Jvm.ClassFile.FieldType), 2, 30)
abbrev m_X3_init : MD := (RX3, yX3_init, cX3_init, 1, (Option.none : Option Jvm.ClassFile.FieldType), 7, 138)
abbrev m_X3_tape : MD := (RX3, yX3_tape, cX3_tape, 1, (Option.some (Jvm.ClassFile.FieldType.object "TurningSums$Tape")), 2, 30)
abbrev m_J9_min_7cf53 : MD := (RJ9, yJ9_min_7cf53, cJ9_min_7cf53, 2, (Option.some Jvm.ClassFile.FieldType.int), 2, 30)
abbrev m_X9_isLetter : MD := (RX9, yX9_isLetter, cX9_isLetter, 1, (Option.some Jvm.ClassFile.FieldType.boolean), 2, 30)
abbrev m_X9_keptNumber : MD := (RX9, yX9_keptNumber, cX9_keptNumber, 4, (Option.some Jvm.ClassFile.FieldType.int), 2, 30)
abbrev m_X9_keepToken : MD := (RX9, yX9_keepToken, cX9_keepToken, 5, (Option.none : Option Jvm.ClassFile.FieldType), 3, 53)
abbrev m_X9_splitWord : MD := (RX9, yX9_splitWord, cX9_splitWord, 6, (Option.some Jvm.ClassFile.FieldType.int), 4, 77)
abbrev m_X9_isDigit : MD := (RX9, yX9_isDigit, cX9_isDigit, 1, (Option.some Jvm.ClassFile.FieldType.boolean), 2, 30)
abbrev m_X9_splitWhole : MD := (RX9, yX9_splitWhole, cX9_splitWhole, 4, (Option.some Jvm.ClassFile.FieldType.int), 4, 77)
abbrev m_J1_canEncode_9a6ad : MD := (RJ1, yJ1_canEncode_9a6ad, cJ1_canEncode_9a6ad, 1, (Option.some Jvm.ClassFile.FieldType.boolean), 2, 30)
abbrev m_J9_max_7cf53 : MD := (RJ9, yJ9_max_7cf53, cJ9_max_7cf53, 2, (Option.some Jvm.ClassFile.FieldType.int), 2, 30)
abbrev m_J1_indexOfChar_4cfef : MD := (RJ1, yJ1_indexOfChar_4cfef, cJ1_indexOfChar_4cfef, 6, (Option.some Jvm.ClassFile.FieldType.int), 2, 30)
abbrev m_J1_indexOf_4cfef : MD := (RJ1, yJ1_indexOf_4cfef, cJ1_indexOf_4cfef, 4, (Option.some Jvm.ClassFile.FieldType.int), 3, 55)
abbrev m_J0_indexOf_7cf53 : MD := (RJ0, yJ0_indexOf_7cf53, cJ0_indexOf_7cf53, 3, (Option.some Jvm.ClassFile.FieldType.int), 4, 78)
abbrev m_J0_indexOf_0f7a4 : MD := (RJ0, yJ0_indexOf_0f7a4, cJ0_indexOf_0f7a4, 2, (Option.some Jvm.ClassFile.FieldType.int), 5, 100)
abbrev m_X9_step : MD := (RX9, yX9_step, cX9_step, 2, (Option.none : Option Jvm.ClassFile.FieldType), 2, 30)
abbrev m_X9_split : MD := (RX9, yX9_split, cX9_split, 5, (Option.none : Option Jvm.ClassFile.FieldType), 6, 121)
abbrev m_X9_atWord : MD := (RX9, yX9_atWord, cX9_atWord, 2, (Option.some Jvm.ClassFile.FieldType.boolean), 2, 30)
abbrev m_X3_blame : MD := (RX3, yX3_blame, cX3_blame, 2, (Option.some Jvm.ClassFile.FieldType.boolean), 2, 30)
abbrev m_X9_atName : MD := (RX9, yX9_atName, cX9_atName, 1, (Option.some Jvm.ClassFile.FieldType.boolean), 2, 30)
abbrev m_X9_nameNow : MD := (RX9, yX9_nameNow, cX9_nameNow, 1, (Option.some Jvm.ClassFile.FieldType.long), 2, 30)
abbrev m_X9_placeNow : MD := (RX9, yX9_placeNow, cX9_placeNow, 1, (Option.some Jvm.ClassFile.FieldType.int), 3, 51)
abbrev m_X3_takeNewName : MD := (RX3, yX3_takeNewName, cX3_takeNewName, 1, (Option.some Jvm.ClassFile.FieldType.boolean), 4, 75)
abbrev m_X9_wholeNow : MD := (RX9, yX9_wholeNow, cX9_wholeNow, 1, (Option.some Jvm.ClassFile.FieldType.int), 2, 30)
abbrev m_X8_isOddPrime : MD := (RX8, yX8_isOddPrime, cX8_isOddPrime, 2, (Option.some Jvm.ClassFile.FieldType.boolean), 2, 30)
abbrev m_X9_atWhole : MD := (RX9, yX9_atWhole, cX9_atWhole, 1, (Option.some Jvm.ClassFile.FieldType.boolean), 2, 30)
abbrev m_X3_takeWhole : MD := (RX3, yX3_takeWhole, cX3_takeWhole, 2, (Option.some Jvm.ClassFile.FieldType.boolean), 3, 51)
abbrev m_X3_takeWord : MD := (RX3, yX3_takeWord, cX3_takeWord, 2, (Option.some Jvm.ClassFile.FieldType.boolean), 3, 51)
abbrev m_X3_isOrderFor : MD := (RX3, yX3_isOrderFor, cX3_isOrderFor, 2, (Option.some Jvm.ClassFile.FieldType.boolean), 2, 30)
abbrev m_X3_readField : MD := (RX3, yX3_readField, cX3_readField, 2, (Option.some Jvm.ClassFile.FieldType.boolean), 6, 123)
abbrev m_X3_takeInField : MD := (RX3, yX3_takeInField, cX3_takeInField, 2, (Option.some Jvm.ClassFile.FieldType.boolean), 4, 77)
abbrev m_X9_atWholeWithin : MD := (RX9, yX9_atWholeWithin, cX9_atWholeWithin, 3, (Option.some Jvm.ClassFile.FieldType.boolean), 2, 30)
abbrev m_X3_readTerm : MD := (RX3, yX3_readTerm, cX3_readTerm, 4, (Option.some Jvm.ClassFile.FieldType.boolean), 4, 74)
abbrev m_X9_atSign : MD := (RX9, yX9_atSign, cX9_atSign, 2, (Option.some Jvm.ClassFile.FieldType.boolean), 2, 30)
abbrev m_X3_readTerms : MD := (RX3, yX3_readTerms, cX3_readTerms, 3, (Option.some Jvm.ClassFile.FieldType.boolean), 5, 97)
abbrev m_X3_readEquation : MD := (RX3, yX3_readEquation, cX3_readEquation, 2, (Option.some Jvm.ClassFile.FieldType.boolean), 6, 119)
abbrev m_X6_addTimes : MD := (RX6, yX6_addTimes, cX6_addTimes, 5, (Option.none : Option Jvm.ClassFile.FieldType), 2, 30)
abbrev m_X6_isHuge : MD := (RX6, yX6_isHuge, cX6_isHuge, 2, (Option.some Jvm.ClassFile.FieldType.boolean), 2, 30)
abbrev m_X3_readLetName : MD := (RX3, yX3_readLetName, cX3_readLetName, 3, (Option.some Jvm.ClassFile.FieldType.boolean), 4, 77)
abbrev m_X5_powerOfZ : MD := (RX5, yX5_powerOfZ, cX5_powerOfZ, 4, (Option.none : Option Jvm.ClassFile.FieldType), 4, 81)
abbrev m_X3_takeSign : MD := (RX3, yX3_takeSign, cX3_takeSign, 2, (Option.some Jvm.ClassFile.FieldType.boolean), 3, 51)
abbrev m_X3_takeTwoCharacters : MD := (RX3, yX3_takeTwoCharacters, cX3_takeTwoCharacters, 2, (Option.some Jvm.ClassFile.FieldType.boolean), 4, 72)
abbrev m_X5_turnRow : MD := (RX5, yX5_turnRow, cX5_turnRow, 7, (Option.none : Option Jvm.ClassFile.FieldType), 4, 81)
abbrev m_X3_readSum (d : Nat) : MD := (RX3, yX3_readSum, cX3_readSum, 6, (Option.some Jvm.ClassFile.FieldType.boolean), 5 + d, 108 + 60 * d)
abbrev m_X3_readProduct (d : Nat) : MD := (RX3, yX3_readProduct, cX3_readProduct, 5, (Option.some Jvm.ClassFile.FieldType.boolean), 5 + d, 108 + 60 * d)
abbrev m_X3_readAtom (d : Nat) : MD := (RX3, yX3_readAtom, cX3_readAtom, 4, (Option.some Jvm.ClassFile.FieldType.boolean), 5 + d, 108 + 60 * d)
abbrev m_X3_readDeeper (d : Nat) : MD := (RX3, yX3_readDeeper, cX3_readDeeper, 7, (Option.some Jvm.ClassFile.FieldType.boolean), 5 + d, 108 + 60 * d)
abbrev m_X3_readLet : MD := (RX3, yX3_readLet, cX3_readLet, 1, (Option.some Jvm.ClassFile.FieldType.boolean), 66, 3733)
abbrev m_X9_atEnd : MD := (RX9, yX9_atEnd, cX9_atEnd, 1, (Option.some Jvm.ClassFile.FieldType.boolean), 2, 30)
abbrev m_X3_readLine : MD := (RX3, yX3_readLine, cX3_readLine, 2, (Option.some Jvm.ClassFile.FieldType.boolean), 67, 3753)
abbrev m_X3_read : MD := (RX3, yX3_read, cX3_read, 3, (Option.some Jvm.ClassFile.FieldType.int), 68, 3774)
abbrev m_X3_faultPlace : MD := (RX3, yX3_faultPlace, cX3_faultPlace, 1, (Option.some Jvm.ClassFile.FieldType.int), 4, 71)
abbrev m_X3_exchange : MD := (RX3, yX3_exchange, cX3_exchange, 3, (Option.some (Jvm.ClassFile.FieldType.object "TurningSums$Book")), 2, 30)
abbrev m_X4_init : MD := (RX4, yX4_init, cX4_init, 1, (Option.none : Option Jvm.ClassFile.FieldType), 2, 30)
abbrev m_X4_clearTo : MD := (RX4, yX4_clearTo, cX4_clearTo, 3, (Option.none : Option Jvm.ClassFile.FieldType), 3, 53)
abbrev m_X4_restart : MD := (RX4, yX4_restart, cX4_restart, 1, (Option.none : Option Jvm.ClassFile.FieldType), 4, 75)
abbrev m_X4_has : MD := (RX4, yX4_has, cX4_has, 2, (Option.some Jvm.ClassFile.FieldType.boolean), 2, 30)
abbrev m_X4_fieldNow : MD := (RX4, yX4_fieldNow, cX4_fieldNow, 1, (Option.some Jvm.ClassFile.FieldType.int), 3, 51)
abbrev m_X4_actsToUndo : MD := (RX4, yX4_actsToUndo, cX4_actsToUndo, 1, (Option.some Jvm.ClassFile.FieldType.int), 2, 30)
abbrev m_X4_actsToRedo : MD := (RX4, yX4_actsToRedo, cX4_actsToRedo, 1, (Option.some Jvm.ClassFile.FieldType.int), 2, 30)
abbrev m_X4_imagesHeld : MD := (RX4, yX4_imagesHeld, cX4_imagesHeld, 1, (Option.some Jvm.ClassFile.FieldType.int), 2, 30)
abbrev m_X4_startOf : MD := (RX4, yX4_startOf, cX4_startOf, 2, (Option.some Jvm.ClassFile.FieldType.int), 2, 30)
abbrev m_X4_copyOut : MD := (RX4, yX4_copyOut, cX4_copyOut, 4, (Option.none : Option Jvm.ClassFile.FieldType), 3, 53)
abbrev m_X4_copyIn : MD := (RX4, yX4_copyIn, cX4_copyIn, 4, (Option.none : Option Jvm.ClassFile.FieldType), 3, 53)
abbrev m_X4_copyState : MD := (RX4, yX4_copyState, cX4_copyState, 5, (Option.none : Option Jvm.ClassFile.FieldType), 3, 53)
abbrev m_X4_beginAct : MD := (RX4, yX4_beginAct, cX4_beginAct, 2, (Option.none : Option Jvm.ClassFile.FieldType), 4, 77)
abbrev m_X4_stepBack : MD := (RX4, yX4_stepBack, cX4_stepBack, 1, (Option.some Jvm.ClassFile.FieldType.boolean), 3, 53)
abbrev m_X4_stepOn : MD := (RX4, yX4_stepOn, cX4_stepOn, 1, (Option.some Jvm.ClassFile.FieldType.boolean), 3, 53)
abbrev m_X4_keepImage : MD := (RX4, yX4_keepImage, cX4_keepImage, 1, (Option.some Jvm.ClassFile.FieldType.boolean), 4, 77)
abbrev m_X4_bringBack : MD := (RX4, yX4_bringBack, cX4_bringBack, 2, (Option.none : Option Jvm.ClassFile.FieldType), 4, 77)
abbrev m_X6_same : MD := (RX6, yX6_same, cX6_same, 3, (Option.some Jvm.ClassFile.FieldType.boolean), 2, 30)
abbrev m_X6_isWhole : MD := (RX6, yX6_isWhole, cX6_isWhole, 2, (Option.some Jvm.ClassFile.FieldType.boolean), 2, 30)
abbrev m_X7_init : MD := (RX7, yX7_init, cX7_init, 1, (Option.none : Option Jvm.ClassFile.FieldType), 2, 30)
abbrev m_X7_become : MD := (RX7, yX7_become, cX7_become, 3, (Option.none : Option Jvm.ClassFile.FieldType), 4, 72)
abbrev m_X7_signAt : MD := (RX7, yX7_signAt, cX7_signAt, 2, (Option.some Jvm.ClassFile.FieldType.int), 3, 51)
abbrev m_X7_echoAt : MD := (RX7, yX7_echoAt, cX7_echoAt, 5, (Option.some Jvm.ClassFile.FieldType.int), 4, 72)
abbrev m_X7_noiseAt : MD := (RX7, yX7_noiseAt, cX7_noiseAt, 7, (Option.some Jvm.ClassFile.FieldType.long), 5, 96)
abbrev m_X7_noiseOfEchoes : MD := (RX7, yX7_noiseOfEchoes, cX7_noiseOfEchoes, 6, (Option.some Jvm.ClassFile.FieldType.long), 3, 51)
abbrev m_X7_passOn : MD := (RX7, yX7_passOn, cX7_passOn, 4, (Option.none : Option Jvm.ClassFile.FieldType), 4, 72)
abbrev m_X7_leastNoisy : MD := (RX7, yX7_leastNoisy, cX7_leastNoisy, 7, (Option.some Jvm.ClassFile.FieldType.int), 5, 96)
abbrev m_X8_signOf : MD := (RX8, yX8_signOf, cX8_signOf, 4, (Option.some Jvm.ClassFile.FieldType.int), 3, 53)
abbrev m_X8_isSquare : MD := (RX8, yX8_isSquare, cX8_isSquare, 2, (Option.some Jvm.ClassFile.FieldType.boolean), 2, 30)
abbrev m_X8_leastForm : MD := (RX8, yX8_leastForm, cX8_leastForm, 3, (Option.some Jvm.ClassFile.FieldType.int), 3, 51)
abbrev m_X8_classBySums : MD := (RX8, yX8_classBySums, cX8_classBySums, 3, (Option.some Jvm.ClassFile.FieldType.int), 4, 76)
abbrev m_X8_isReducedForm : MD := (RX8, yX8_isReducedForm, cX8_isReducedForm, 4, (Option.some Jvm.ClassFile.FieldType.boolean), 3, 52)
abbrev m_X8_classByForms : MD := (RX8, yX8_classByForms, cX8_classByForms, 4, (Option.some Jvm.ClassFile.FieldType.int), 4, 75)
abbrev m_X9_bytesHeld : MD := (RX9, yX9_bytesHeld, cX9_bytesHeld, 1, (Option.some Jvm.ClassFile.FieldType.int), 2, 30)
abbrev m_X9_hasRoom : MD := (RX9, yX9_hasRoom, cX9_hasRoom, 2, (Option.some Jvm.ClassFile.FieldType.boolean), 2, 30)
abbrev m_X9_append : MD := (RX9, yX9_append, cX9_append, 3, (Option.none : Option Jvm.ClassFile.FieldType), 3, 52)
abbrev m_X9_empty : MD := (RX9, yX9_empty, cX9_empty, 1, (Option.none : Option Jvm.ClassFile.FieldType), 2, 30)
abbrev m_X10_init : MD := (RX10, yX10_init, cX10_init, 1, (Option.none : Option Jvm.ClassFile.FieldType), 8, 158)
abbrev m_X10_feed : MD := (RX10, yX10_feed, cX10_feed, 7, (Option.some Jvm.ClassFile.FieldType.int), 4, 74)
abbrev m_X10_refused : MD := (RX10, yX10_refused, cX10_refused, 3, (Option.some Jvm.ClassFile.FieldType.int), 2, 30)
abbrev m_X10_answered : MD := (RX10, yX10_answered, cX10_answered, 2, (Option.some Jvm.ClassFile.FieldType.int), 2, 30)
abbrev m_X10_book : MD := (RX10, yX10_book, cX10_book, 2, (Option.some Jvm.ClassFile.FieldType.int), 69, 3796)
abbrev m_X10_fault : MD := (RX10, yX10_fault, cX10_fault, 1, (Option.some Jvm.ClassFile.FieldType.int), 2, 30)
abbrev m_X10_where : MD := (RX10, yX10_where, cX10_where, 1, (Option.some Jvm.ClassFile.FieldType.int), 2, 30)
abbrev m_X10_field : MD := (RX10, yX10_field, cX10_field, 4, (Option.some Jvm.ClassFile.FieldType.int), 4, 71)
abbrev m_X10_log : MD := (RX10, yX10_log, cX10_log, 4, (Option.some Jvm.ClassFile.FieldType.int), 4, 72)
abbrev m_X10_character : MD := (RX10, yX10_character, cX10_character, 5, (Option.some Jvm.ClassFile.FieldType.int), 4, 75)
abbrev m_X10_hasSum : MD := (RX10, yX10_hasSum, cX10_hasSum, 3, (Option.some Jvm.ClassFile.FieldType.boolean), 3, 51)
abbrev m_X10_sum : MD := (RX10, yX10_sum, cX10_sum, 6, (Option.some Jvm.ClassFile.FieldType.int), 5, 108)
abbrev m_X10_norm : MD := (RX10, yX10_norm, cX10_norm, 6, (Option.some Jvm.ClassFile.FieldType.int), 5, 108)
abbrev m_X10_relation : MD := (RX10, yX10_relation, cX10_relation, 7, (Option.some Jvm.ClassFile.FieldType.int), 5, 108)
abbrev m_X10_part : MD := (RX10, yX10_part, cX10_part, 6, (Option.some Jvm.ClassFile.FieldType.int), 5, 108)
abbrev m_X10_law : MD := (RX10, yX10_law, cX10_law, 7, (Option.some Jvm.ClassFile.FieldType.int), 4, 73)
abbrev m_X10_parts : MD := (RX10, yX10_parts, cX10_parts, 7, (Option.some Jvm.ClassFile.FieldType.int), 5, 108)
abbrev m_X10_let : MD := (RX10, yX10_let, cX10_let, 4, (Option.some Jvm.ClassFile.FieldType.int), 4, 72)
abbrev m_X10_letField : MD := (RX10, yX10_letField, cX10_letField, 3, (Option.some Jvm.ClassFile.FieldType.int), 4, 72)
abbrev m_X10_letPart : MD := (RX10, yX10_letPart, cX10_letPart, 4, (Option.some Jvm.ClassFile.FieldType.int), 5, 98)
abbrev m_X10_whole : MD := (RX10, yX10_whole, cX10_whole, 2, (Option.some Jvm.ClassFile.FieldType.int), 4, 72)
abbrev m_X10_count : MD := (RX10, yX10_count, cX10_count, 3, (Option.some Jvm.ClassFile.FieldType.int), 6, 128)
abbrev m_X10_countOf : MD := (RX10, yX10_countOf, cX10_countOf, 4, (Option.some Jvm.ClassFile.FieldType.int), 6, 128)
abbrev m_X10_curve : MD := (RX10, yX10_curve, cX10_curve, 4, (Option.some Jvm.ClassFile.FieldType.long), 7, 163)
abbrev m_X10_sign : MD := (RX10, yX10_sign, cX10_sign, 3, (Option.some Jvm.ClassFile.FieldType.int), 4, 76)
abbrev m_X10_both : MD := (RX10, yX10_both, cX10_both, 3, (Option.some Jvm.ClassFile.FieldType.int), 4, 76)
abbrev m_X10_form : MD := (RX10, yX10_form, cX10_form, 3, (Option.some Jvm.ClassFile.FieldType.int), 4, 73)
abbrev m_X10_power : MD := (RX10, yX10_power, cX10_power, 5, (Option.some Jvm.ClassFile.FieldType.int), 5, 94)
abbrev m_X10_classSums : MD := (RX10, yX10_classSums, cX10_classSums, 2, (Option.some Jvm.ClassFile.FieldType.int), 5, 98)
abbrev m_X10_classForms : MD := (RX10, yX10_classForms, cX10_classForms, 2, (Option.some Jvm.ClassFile.FieldType.int), 5, 98)
abbrev m_X10_meets : MD := (RX10, yX10_meets, cX10_meets, 5, (Option.some Jvm.ClassFile.FieldType.int), 5, 96)
abbrev m_X10_even : MD := (RX10, yX10_even, cX10_even, 3, (Option.some Jvm.ClassFile.FieldType.int), 6, 116)
abbrev m_X10_echo : MD := (RX10, yX10_echo, cX10_echo, 5, (Option.some Jvm.ClassFile.FieldType.int), 5, 96)
abbrev m_X10_noise : MD := (RX10, yX10_noise, cX10_noise, 4, (Option.some Jvm.ClassFile.FieldType.long), 6, 122)
abbrev m_X10_lowest : MD := (RX10, yX10_lowest, cX10_lowest, 3, (Option.some Jvm.ClassFile.FieldType.int), 6, 122)
abbrev m_X10_denied : MD := (RX10, yX10_denied, cX10_denied, 2, (Option.some Jvm.ClassFile.FieldType.boolean), 2, 30)
abbrev m_X10_granted : MD := (RX10, yX10_granted, cX10_granted, 1, (Option.some Jvm.ClassFile.FieldType.boolean), 2, 30)
abbrev m_X10_choose : MD := (RX10, yX10_choose, cX10_choose, 2, (Option.some Jvm.ClassFile.FieldType.boolean), 5, 98)
abbrev m_X10_fieldOfRegister : MD := (RX10, yX10_fieldOfRegister, cX10_fieldOfRegister, 2, (Option.some (Jvm.ClassFile.FieldType.object "TurningSums$Field")), 4, 71)
abbrev m_X10_register : MD := (RX10, yX10_register, cX10_register, 4, (Option.some Jvm.ClassFile.FieldType.int), 5, 92)
abbrev m_X10_keep : MD := (RX10, yX10_keep, cX10_keep, 3, (Option.some Jvm.ClassFile.FieldType.boolean), 5, 98)
abbrev m_X10_take : MD := (RX10, yX10_take, cX10_take, 4, (Option.some Jvm.ClassFile.FieldType.boolean), 6, 120)
abbrev m_X10_jacobi : MD := (RX10, yX10_jacobi, cX10_jacobi, 5, (Option.some Jvm.ClassFile.FieldType.boolean), 6, 120)
abbrev m_X10_add : MD := (RX10, yX10_add, cX10_add, 4, (Option.some Jvm.ClassFile.FieldType.boolean), 6, 120)
abbrev m_X10_times : MD := (RX10, yX10_times, cX10_times, 4, (Option.some Jvm.ClassFile.FieldType.boolean), 6, 120)
abbrev m_X10_turn : MD := (RX10, yX10_turn, cX10_turn, 4, (Option.some Jvm.ClassFile.FieldType.boolean), 6, 120)
abbrev m_X10_multiplyTurns : MD := (RX10, yX10_multiplyTurns, cX10_multiplyTurns, 4, (Option.some Jvm.ClassFile.FieldType.boolean), 5, 108)
abbrev m_X10_size : MD := (RX10, yX10_size, cX10_size, 3, (Option.some Jvm.ClassFile.FieldType.long), 6, 131)
abbrev m_X10_undo : MD := (RX10, yX10_undo, cX10_undo, 1, (Option.some Jvm.ClassFile.FieldType.boolean), 4, 73)
abbrev m_X10_redo : MD := (RX10, yX10_redo, cX10_redo, 1, (Option.some Jvm.ClassFile.FieldType.boolean), 4, 73)
abbrev m_X10_image : MD := (RX10, yX10_image, cX10_image, 2, (Option.some Jvm.ClassFile.FieldType.int), 5, 97)
abbrev m_X10_restore : MD := (RX10, yX10_restore, cX10_restore, 2, (Option.some Jvm.ClassFile.FieldType.boolean), 5, 98)
abbrev m_X10_told : MD := (RX10, yX10_told, cX10_told, 2, (Option.some Jvm.ClassFile.FieldType.int), 4, 71)
abbrev m_X10_trouble : MD := (RX10, yX10_trouble, cX10_trouble, 1, (Option.some Jvm.ClassFile.FieldType.int), 2, 30)
abbrev m_X11_init : MD := (RX11, yX11_init, cX11_init, 1, (Option.none : Option Jvm.ClassFile.FieldType), 2, 30)
abbrev m_X11_find : MD := (RX11, yX11_find, cX11_find, 4, (Option.some Jvm.ClassFile.FieldType.int), 2, 30)
abbrev m_X12_isRoot : MD := (RX12, yX12_isRoot, cX12_isRoot, 4, (Option.some Jvm.ClassFile.FieldType.boolean), 2, 30)
abbrev m_X13_divisor : MD := (RX13, yX13_divisor, cX13_divisor, 5, (Option.some Jvm.ClassFile.FieldType.int), 2, 30)
abbrev m_X12_sign : MD := (RX12, yX12_sign, cX12_sign, 4, (Option.some Jvm.ClassFile.FieldType.int), 2, 30)
abbrev m_X12_lays : MD := (RX12, yX12_lays, cX12_lays, 4, (Option.none : Option Jvm.ClassFile.FieldType), 3, 53)
abbrev m_X12_init : MD := (RX12, yX12_init, cX12_init, 7, (Option.none : Option Jvm.ClassFile.FieldType), 4, 76)
abbrev m_X13_in : MD := (RX13, yX13_in, cX13_in, 3, (Option.some Jvm.ClassFile.FieldType.boolean), 2, 30)
abbrev m_X12_isUnit : MD := (RX12, yX12_isUnit, cX12_isUnit, 2, (Option.some Jvm.ClassFile.FieldType.boolean), 3, 54)
abbrev m_X13_init : MD := (RX13, yX13_init, cX13_init, 1, (Option.none : Option Jvm.ClassFile.FieldType), 2, 30)
abbrev m_X13_thrown : MD := (RX13, yX13_thrown, cX13_thrown, 1, (Option.some Jvm.ClassFile.FieldType.int), 2, 30)
abbrev m_X13_refused : MD := (RX13, yX13_refused, cX13_refused, 2, (Option.some Jvm.ClassFile.FieldType.int), 2, 30)
abbrev m_X13_refusedBy : MD := (RX13, yX13_refusedBy, cX13_refusedBy, 3, (Option.some Jvm.ClassFile.FieldType.int), 3, 51)
abbrev m_X13_denied : MD := (RX13, yX13_denied, cX13_denied, 2, (Option.some Jvm.ClassFile.FieldType.boolean), 3, 51)
abbrev m_X13_good : MD := (RX13, yX13_good, cX13_good, 2, (Option.some Jvm.ClassFile.FieldType.int), 2, 30)
abbrev m_X13_goodLong : MD := (RX13, yX13_goodLong, cX13_goodLong, 3, (Option.some Jvm.ClassFile.FieldType.long), 3, 51)
abbrev m_X13_granted : MD := (RX13, yX13_granted, cX13_granted, 1, (Option.some Jvm.ClassFile.FieldType.boolean), 3, 51)
abbrev m_X13_isPrime : MD := (RX13, yX13_isPrime, cX13_isPrime, 2, (Option.some Jvm.ClassFile.FieldType.boolean), 2, 30)
abbrev m_X13_raised : MD := (RX13, yX13_raised, cX13_raised, 5, (Option.some Jvm.ClassFile.FieldType.int), 2, 30)
abbrev m_X13_settles : MD := (RX13, yX13_settles, cX13_settles, 9, (Option.none : Option Jvm.ClassFile.FieldType), 2, 30)
abbrev m_X13_clearWide : MD := (RX13, yX13_clearWide, cX13_clearWide, 2, (Option.none : Option Jvm.ClassFile.FieldType), 2, 30)
abbrev m_X13_multiply : MD := (RX13, yX13_multiply, cX13_multiply, 7, (Option.none : Option Jvm.ClassFile.FieldType), 3, 58)
abbrev m_X13_turned : MD := (RX13, yX13_turned, cX13_turned, 6, (Option.none : Option Jvm.ClassFile.FieldType), 3, 58)
abbrev m_X13_wholeRow : MD := (RX13, yX13_wholeRow, cX13_wholeRow, 5, (Option.none : Option Jvm.ClassFile.FieldType), 2, 30)
abbrev m_X13_added : MD := (RX13, yX13_added, cX13_added, 6, (Option.none : Option Jvm.ClassFile.FieldType), 2, 30)
abbrev m_X13_isHuge : MD := (RX13, yX13_isHuge, cX13_isHuge, 3, (Option.some Jvm.ClassFile.FieldType.boolean), 2, 30)
abbrev m_X13_isWhole : MD := (RX13, yX13_isWhole, cX13_isWhole, 3, (Option.some Jvm.ClassFile.FieldType.boolean), 2, 30)
abbrev m_X13_areAlike : MD := (RX13, yX13_areAlike, cX13_areAlike, 4, (Option.some Jvm.ClassFile.FieldType.boolean), 2, 30)
abbrev m_X13_at : MD := (RX13, yX13_at, cX13_at, 4, (Option.some Jvm.ClassFile.FieldType.int), 2, 30)
abbrev m_X13_jacobiRow : MD := (RX13, yX13_jacobiRow, cX13_jacobiRow, 8, (Option.none : Option Jvm.ClassFile.FieldType), 3, 58)
abbrev m_X13_partOf : MD := (RX13, yX13_partOf, cX13_partOf, 10, (Option.some Jvm.ClassFile.FieldType.int), 3, 54)
abbrev m_X13_byteAt : MD := (RX13, yX13_byteAt, cX13_byteAt, 2, (Option.some Jvm.ClassFile.FieldType.int), 2, 30)
abbrev m_X13_isLetter : MD := (RX13, yX13_isLetter, cX13_isLetter, 1, (Option.some Jvm.ClassFile.FieldType.boolean), 2, 30)
abbrev m_X13_isDigit : MD := (RX13, yX13_isDigit, cX13_isDigit, 1, (Option.some Jvm.ClassFile.FieldType.boolean), 2, 30)
abbrev m_X13_wordOf : MD := (RX13, yX13_wordOf, cX13_wordOf, 4, (Option.some Jvm.ClassFile.FieldType.long), 6, 115)
abbrev m_X13_goesOn : MD := (RX13, yX13_goesOn, cX13_goesOn, 3, (Option.none : Option Jvm.ClassFile.FieldType), 3, 51)
abbrev m_X13_wrongThere : MD := (RX13, yX13_wrongThere, cX13_wrongThere, 3, (Option.none : Option Jvm.ClassFile.FieldType), 2, 30)
abbrev m_X13_wrong : MD := (RX13, yX13_wrong, cX13_wrong, 2, (Option.none : Option Jvm.ClassFile.FieldType), 3, 52)
abbrev m_X13_isWord : MD := (RX13, yX13_isWord, cX13_isWord, 2, (Option.some Jvm.ClassFile.FieldType.boolean), 7, 138)
abbrev m_X13_isSign : MD := (RX13, yX13_isSign, cX13_isSign, 2, (Option.some Jvm.ClassFile.FieldType.boolean), 2, 30)
abbrev m_X13_eatsWord : MD := (RX13, yX13_eatsWord, cX13_eatsWord, 3, (Option.some Jvm.ClassFile.FieldType.boolean), 8, 159)
abbrev m_X13_eatsSign : MD := (RX13, yX13_eatsSign, cX13_eatsSign, 3, (Option.some Jvm.ClassFile.FieldType.boolean), 4, 73)
abbrev m_X13_needs : MD := (RX13, yX13_needs, cX13_needs, 2, (Option.none : Option Jvm.ClassFile.FieldType), 8, 159)
abbrev m_X13_needsSign : MD := (RX13, yX13_needsSign, cX13_needsSign, 2, (Option.none : Option Jvm.ClassFile.FieldType), 4, 73)
abbrev m_X13_bounded : MD := (RX13, yX13_bounded, cX13_bounded, 3, (Option.some Jvm.ClassFile.FieldType.int), 4, 73)
abbrev m_X13_readWhole : MD := (RX13, yX13_readWhole, cX13_readWhole, 4, (Option.some Jvm.ClassFile.FieldType.int), 5, 95)
abbrev m_X13_isName : MD := (RX13, yX13_isName, cX13_isName, 1, (Option.some Jvm.ClassFile.FieldType.boolean), 8, 159)
abbrev m_X13_begins : MD := (RX13, yX13_begins, cX13_begins, 3, (Option.none : Option Jvm.ClassFile.FieldType), 4, 73)
abbrev m_X13_readFresh : MD := (RX13, yX13_readFresh, cX13_readFresh, 3, (Option.some Jvm.ClassFile.FieldType.long), 9, 179)
abbrev m_X13_names : MD := (RX13, yX13_names, cX13_names, 5, (Option.none : Option Jvm.ClassFile.FieldType), 2, 30)
abbrev m_X13_readField : MD := (RX13, yX13_readField, cX13_readField, 3, (Option.some Jvm.ClassFile.FieldType.int), 9, 180)
abbrev m_X13_readFieldLine : MD := (RX13, yX13_readFieldLine, cX13_readFieldLine, 5, (Option.none : Option Jvm.ClassFile.FieldType), 10, 201)
abbrev m_X13_readEquation : MD := (RX13, yX13_readEquation, cX13_readEquation, 10, (Option.none : Option Jvm.ClassFile.FieldType), 10, 202)
abbrev m_X13_checks : MD := (RX13, yX13_checks, cX13_checks, 2, (Option.none : Option Jvm.ClassFile.FieldType), 3, 54)
abbrev m_X13_deeper : MD := (RX13, yX13_deeper, cX13_deeper, 1, (Option.none : Option Jvm.ClassFile.FieldType), 4, 73)
abbrev m_X13_readNamed : MD := (RX13, yX13_readNamed, cX13_readNamed, 5, (Option.none : Option Jvm.ClassFile.FieldType), 9, 179)
abbrev m_X13_readSum (d : Nat) : MD := (RX13, yX13_readSum, cX13_readSum, 7, (Option.some Jvm.ClassFile.FieldType.int), 10 + d, 203 + 60 * d)
abbrev m_X13_readProduct (d : Nat) : MD := (RX13, yX13_readProduct, cX13_readProduct, 5, (Option.some Jvm.ClassFile.FieldType.int), 10 + d, 203 + 60 * d)
abbrev m_X13_readAtom (d : Nat) : MD := (RX13, yX13_readAtom, cX13_readAtom, 6, (Option.some Jvm.ClassFile.FieldType.int), 10 + d, 203 + 60 * d)
abbrev m_X13_turnsAtom (d : Nat) : MD := (RX13, yX13_turnsAtom, cX13_turnsAtom, 5, (Option.some Jvm.ClassFile.FieldType.int), 10 + d, 203 + 60 * d)
abbrev m_X13_readLet : MD := (RX13, yX13_readLet, cX13_readLet, 7, (Option.none : Option Jvm.ClassFile.FieldType), 71, 3829)
abbrev m_X13_readLine : MD := (RX13, yX13_readLine, cX13_readLine, 1, (Option.none : Option Jvm.ClassFile.FieldType), 72, 3855)
abbrev m_X13_readBook : MD := (RX13, yX13_readBook, cX13_readBook, 2, (Option.none : Option Jvm.ClassFile.FieldType), 73, 3875)
abbrev m_X13_feed : MD := (RX13, yX13_feed, cX13_feed, 8, (Option.some Jvm.ClassFile.FieldType.int), 2, 30)
abbrev m_X13_book : MD := (RX13, yX13_book, cX13_book, 3, (Option.some Jvm.ClassFile.FieldType.int), 74, 3896)
abbrev m_X13_fault : MD := (RX13, yX13_fault, cX13_fault, 1, (Option.some Jvm.ClassFile.FieldType.int), 2, 30)
abbrev m_X13_where : MD := (RX13, yX13_where, cX13_where, 1, (Option.some Jvm.ClassFile.FieldType.int), 2, 30)
abbrev m_X13_isField : MD := (RX13, yX13_isField, cX13_isField, 2, (Option.some Jvm.ClassFile.FieldType.boolean), 2, 30)
abbrev m_X13_isOrder : MD := (RX13, yX13_isOrder, cX13_isOrder, 3, (Option.some Jvm.ClassFile.FieldType.boolean), 3, 51)
abbrev m_X13_areOrders : MD := (RX13, yX13_areOrders, cX13_areOrders, 4, (Option.some Jvm.ClassFile.FieldType.boolean), 4, 73)
abbrev m_X13_field : MD := (RX13, yX13_field, cX13_field, 4, (Option.some Jvm.ClassFile.FieldType.int), 3, 52)
abbrev m_X13_log : MD := (RX13, yX13_log, cX13_log, 3, (Option.some Jvm.ClassFile.FieldType.int), 3, 52)
abbrev m_X13_character : MD := (RX13, yX13_character, cX13_character, 4, (Option.some Jvm.ClassFile.FieldType.int), 4, 73)
abbrev m_X13_sum : MD := (RX13, yX13_sum, cX13_sum, 5, (Option.some Jvm.ClassFile.FieldType.int), 5, 96)
abbrev m_X13_norm : MD := (RX13, yX13_norm, cX13_norm, 5, (Option.some Jvm.ClassFile.FieldType.int), 5, 96)
abbrev m_X13_relation : MD := (RX13, yX13_relation, cX13_relation, 6, (Option.some Jvm.ClassFile.FieldType.int), 5, 96)
abbrev m_X13_part : MD := (RX13, yX13_part, cX13_part, 5, (Option.some Jvm.ClassFile.FieldType.int), 5, 96)
abbrev m_X13_law : MD := (RX13, yX13_law, cX13_law, 6, (Option.some Jvm.ClassFile.FieldType.int), 5, 96)
abbrev m_X13_parts : MD := (RX13, yX13_parts, cX13_parts, 7, (Option.some Jvm.ClassFile.FieldType.int), 5, 96)
abbrev m_X13_isLet : MD := (RX13, yX13_isLet, cX13_isLet, 2, (Option.some Jvm.ClassFile.FieldType.boolean), 2, 30)
abbrev m_X13_fieldOf : MD := (RX13, yX13_fieldOf, cX13_fieldOf, 2, (Option.some (Jvm.ClassFile.FieldType.object "TurningSumsModel$Field")), 2, 30)
abbrev m_X13_lets : MD := (RX13, yX13_lets, cX13_lets, 4, (Option.none : Option Jvm.ClassFile.FieldType), 2, 30)
abbrev m_X13_let : MD := (RX13, yX13_let, cX13_let, 3, (Option.some Jvm.ClassFile.FieldType.int), 4, 73)
abbrev m_X13_letField : MD := (RX13, yX13_letField, cX13_letField, 2, (Option.some Jvm.ClassFile.FieldType.int), 3, 51)
abbrev m_X13_letPart : MD := (RX13, yX13_letPart, cX13_letPart, 3, (Option.some Jvm.ClassFile.FieldType.int), 4, 83)
abbrev m_X13_whole : MD := (RX13, yX13_whole, cX13_whole, 2, (Option.some Jvm.ClassFile.FieldType.int), 3, 53)
abbrev m_X13_counts : MD := (RX13, yX13_counts, cX13_counts, 7, (Option.none : Option Jvm.ClassFile.FieldType), 3, 54)
abbrev m_X13_isEquation : MD := (RX13, yX13_isEquation, cX13_isEquation, 2, (Option.some Jvm.ClassFile.FieldType.boolean), 2, 30)
abbrev m_X13_count : MD := (RX13, yX13_count, cX13_count, 2, (Option.some Jvm.ClassFile.FieldType.int), 4, 80)
abbrev m_X13_countOf : MD := (RX13, yX13_countOf, cX13_countOf, 3, (Option.some Jvm.ClassFile.FieldType.int), 4, 80)
abbrev m_X13_powerRow : MD := (RX13, yX13_powerRow, cX13_powerRow, 6, (Option.none : Option Jvm.ClassFile.FieldType), 4, 84)
abbrev m_X13_curve : MD := (RX13, yX13_curve, cX13_curve, 6, (Option.some Jvm.ClassFile.FieldType.long), 5, 109)
abbrev m_X13_isOddPrime : MD := (RX13, yX13_isOddPrime, cX13_isOddPrime, 1, (Option.some Jvm.ClassFile.FieldType.boolean), 3, 52)
abbrev m_X13_signOf : MD := (RX13, yX13_signOf, cX13_signOf, 4, (Option.some Jvm.ClassFile.FieldType.int), 2, 30)
abbrev m_X13_sign : MD := (RX13, yX13_sign, cX13_sign, 3, (Option.some Jvm.ClassFile.FieldType.int), 4, 73)
abbrev m_X13_both : MD := (RX13, yX13_both, cX13_both, 3, (Option.some Jvm.ClassFile.FieldType.int), 4, 73)
abbrev m_X13_isSquare : MD := (RX13, yX13_isSquare, cX13_isSquare, 2, (Option.some Jvm.ClassFile.FieldType.boolean), 2, 30)
abbrev m_X13_form : MD := (RX13, yX13_form, cX13_form, 4, (Option.some Jvm.ClassFile.FieldType.int), 4, 72)
abbrev m_X13_power : MD := (RX13, yX13_power, cX13_power, 4, (Option.some Jvm.ClassFile.FieldType.int), 3, 54)
abbrev m_X13_classSums : MD := (RX13, yX13_classSums, cX13_classSums, 4, (Option.some Jvm.ClassFile.FieldType.int), 3, 53)
abbrev m_X13_classForms : MD := (RX13, yX13_classForms, cX13_classForms, 6, (Option.some Jvm.ClassFile.FieldType.int), 3, 54)
abbrev m_X13_meets : MD := (RX13, yX13_meets, cX13_meets, 7, (Option.some Jvm.ClassFile.FieldType.int), 5, 96)
abbrev m_X13_even : MD := (RX13, yX13_even, cX13_even, 8, (Option.some Jvm.ClassFile.FieldType.int), 3, 51)
abbrev m_X13_rowOf : MD := (RX13, yX13_rowOf, cX13_rowOf, 4, (Option.none : Option Jvm.ClassFile.FieldType), 2, 30)
abbrev m_X13_echoOf : MD := (RX13, yX13_echoOf, cX13_echoOf, 5, (Option.some Jvm.ClassFile.FieldType.int), 2, 30)
abbrev m_X13_noiseOf : MD := (RX13, yX13_noiseOf, cX13_noiseOf, 6, (Option.some Jvm.ClassFile.FieldType.long), 3, 54)
abbrev m_X13_refusesTurn : MD := (RX13, yX13_refusesTurn, cX13_refusesTurn, 3, (Option.some Jvm.ClassFile.FieldType.int), 3, 52)
abbrev m_X13_echo : MD := (RX13, yX13_echo, cX13_echo, 5, (Option.some Jvm.ClassFile.FieldType.int), 4, 74)
abbrev m_X13_noise : MD := (RX13, yX13_noise, cX13_noise, 4, (Option.some Jvm.ClassFile.FieldType.long), 4, 79)
abbrev m_X13_lowest : MD := (RX13, yX13_lowest, cX13_lowest, 8, (Option.some Jvm.ClassFile.FieldType.int), 4, 79)
abbrev m_X13_keeps : MD := (RX13, yX13_keeps, cX13_keeps, 4, (Option.none : Option Jvm.ClassFile.FieldType), 2, 30)
abbrev m_X13_takes : MD := (RX13, yX13_takes, cX13_takes, 4, (Option.none : Option Jvm.ClassFile.FieldType), 2, 30)
abbrev m_X13_acts : MD := (RX13, yX13_acts, cX13_acts, 2, (Option.some Jvm.ClassFile.FieldType.boolean), 4, 71)
abbrev m_X13_isRegister : MD := (RX13, yX13_isRegister, cX13_isRegister, 2, (Option.some Jvm.ClassFile.FieldType.boolean), 3, 52)
abbrev m_X13_chosen : MD := (RX13, yX13_chosen, cX13_chosen, 1, (Option.some (Jvm.ClassFile.FieldType.object "TurningSumsModel$Field")), 2, 30)
abbrev m_X13_loads : MD := (RX13, yX13_loads, cX13_loads, 4, (Option.none : Option Jvm.ClassFile.FieldType), 2, 30)
abbrev m_X13_stores : MD := (RX13, yX13_stores, cX13_stores, 4, (Option.some Jvm.ClassFile.FieldType.boolean), 5, 92)
abbrev m_X13_choose : MD := (RX13, yX13_choose, cX13_choose, 3, (Option.some Jvm.ClassFile.FieldType.boolean), 5, 92)
abbrev m_X13_register : MD := (RX13, yX13_register, cX13_register, 3, (Option.some Jvm.ClassFile.FieldType.int), 4, 73)
abbrev m_X13_take : MD := (RX13, yX13_take, cX13_take, 3, (Option.some Jvm.ClassFile.FieldType.boolean), 6, 115)
abbrev m_X13_jacobi : MD := (RX13, yX13_jacobi, cX13_jacobi, 4, (Option.some Jvm.ClassFile.FieldType.boolean), 6, 115)
abbrev m_X13_add : MD := (RX13, yX13_add, cX13_add, 4, (Option.some Jvm.ClassFile.FieldType.boolean), 6, 115)
abbrev m_X13_times : MD := (RX13, yX13_times, cX13_times, 3, (Option.some Jvm.ClassFile.FieldType.boolean), 6, 115)
abbrev m_X13_turn : MD := (RX13, yX13_turn, cX13_turn, 3, (Option.some Jvm.ClassFile.FieldType.boolean), 6, 115)
abbrev m_X13_size : MD := (RX13, yX13_size, cX13_size, 4, (Option.some Jvm.ClassFile.FieldType.long), 4, 84)
abbrev m_X13_undo : MD := (RX13, yX13_undo, cX13_undo, 1, (Option.some Jvm.ClassFile.FieldType.boolean), 4, 72)
abbrev m_X13_redo : MD := (RX13, yX13_redo, cX13_redo, 1, (Option.some Jvm.ClassFile.FieldType.boolean), 4, 72)
abbrev m_X13_image : MD := (RX13, yX13_image, cX13_image, 1, (Option.some Jvm.ClassFile.FieldType.int), 3, 53)
abbrev m_X13_restore : MD := (RX13, yX13_restore, cX13_restore, 2, (Option.some Jvm.ClassFile.FieldType.boolean), 5, 92)
abbrev m_X13_led : MD := (RX13, yX13_led, cX13_led, 5, (Option.some Jvm.ClassFile.FieldType.int), 3, 51)
abbrev m_X13_told : MD := (RX13, yX13_told, cX13_told, 2, (Option.some Jvm.ClassFile.FieldType.int), 3, 52)
abbrev m_X13_trouble : MD := (RX13, yX13_trouble, cX13_trouble, 1, (Option.some Jvm.ClassFile.FieldType.int), 2, 30)
theorem ac_int : Cond.arrayClass (newarray.typeOf .int) ∈ gws := gw_in 248 (by decide +kernel) (by decide +kernel)
theorem fkm_X2_11 : Cond.fieldLink RX2 11 (TX2 0).1 (TX2 0).2.1 (TX2 0).2.2.1 ∈ gws := gw_in 279 (by decide +kernel) (by decide +kernel)
theorem fk_X2_11 : LK RX2 11 TX2 0 := Or.inl fkm_X2_11
theorem fkm_X2_15 : Cond.fieldLink RX2 15 (TX2 1).1 (TX2 1).2.1 (TX2 1).2.2.1 ∈ gws := gw_in 280 (by decide +kernel) (by decide +kernel)
theorem fk_X2_15 : LK RX2 15 TX2 1 := Or.inl fkm_X2_15
theorem fkm_X2_18 : Cond.fieldLink RX2 18 (TX2 2).1 (TX2 2).2.1 (TX2 2).2.2.1 ∈ gws := gw_in 281 (by decide +kernel) (by decide +kernel)
theorem fk_X2_18 : LK RX2 18 TX2 2 := Or.inl fkm_X2_18
theorem fkm_X2_21 : Cond.fieldLink RX2 21 (TX2 3).1 (TX2 3).2.1 (TX2 3).2.2.1 ∈ gws := gw_in 282 (by decide +kernel) (by decide +kernel)
theorem fk_X2_21 : LK RX2 21 TX2 3 := Or.inl fkm_X2_21
theorem fkm_X2_25 : Cond.fieldLink RX2 25 (TX2 4).1 (TX2 4).2.1 (TX2 4).2.2.1 ∈ gws := gw_in 283 (by decide +kernel) (by decide +kernel)
theorem fk_X2_25 : LK RX2 25 TX2 4 := Or.inl fkm_X2_25
theorem oi_X2_3 : Cond.methodLink RX2 3 Lib.objectInit ∈ gws := gw_in 278 (by decide +kernel) (by decide +kernel)
theorem oi_1 : Cond.instanceMethod Lib.objectInit ∈ gws := gw_in 141 (by decide +kernel) (by decide +kernel)
theorem oi_2 : Cond.code Lib.objectInit ⟨#[0xb1]⟩ 1 none ∈ gws := gw_in 142 (by decide +kernel) (by decide +kernel)
theorem fkm_X1_9 : Cond.fieldLink RX1 9 (TX1 0).1 (TX1 0).2.1 (TX1 0).2.2.1 ∈ gws := gw_in 300 (by decide +kernel) (by decide +kernel)
theorem fk_X1_9 : LK RX1 9 TX1 0 := Or.inl fkm_X1_9
theorem fkm_X1_13 : Cond.fieldLink RX1 13 (TX1 1).1 (TX1 1).2.1 (TX1 1).2.2.1 ∈ gws := gw_in 301 (by decide +kernel) (by decide +kernel)
theorem fk_X1_13 : LK RX1 13 TX1 1 := Or.inl fkm_X1_13
theorem ac_long : Cond.arrayClass (newarray.typeOf .long) ∈ gws := gw_in 249 (by decide +kernel) (by decide +kernel)
theorem fkm_X1_18 : Cond.fieldLink RX1 18 (TX1 2).1 (TX1 2).2.1 (TX1 2).2.2.1 ∈ gws := gw_in 302 (by decide +kernel) (by decide +kernel)
theorem fk_X1_18 : LK RX1 18 TX1 2 := Or.inl fkm_X1_18
theorem fkm_X1_22 : Cond.fieldLink RX1 22 (TX1 3).1 (TX1 3).2.1 (TX1 3).2.2.1 ∈ gws := gw_in 303 (by decide +kernel) (by decide +kernel)
theorem fk_X1_22 : LK RX1 22 TX1 3 := Or.inl fkm_X1_22
theorem fkm_X1_25 : Cond.fieldLink RX1 25 (TX1 4).1 (TX1 4).2.1 (TX1 4).2.2.1 ∈ gws := gw_in 304 (by decide +kernel) (by decide +kernel)
theorem fk_X1_25 : LK RX1 25 TX1 4 := Or.inl fkm_X1_25
theorem fkm_X1_29 : Cond.fieldLink RX1 29 (TX1 5).1 (TX1 5).2.1 (TX1 5).2.2.1 ∈ gws := gw_in 305 (by decide +kernel) (by decide +kernel)
theorem fk_X1_29 : LK RX1 29 TX1 5 := Or.inl fkm_X1_29
theorem fkm_X1_32 : Cond.fieldLink RX1 32 (TX1 6).1 (TX1 6).2.1 (TX1 6).2.2.1 ∈ gws := gw_in 306 (by decide +kernel) (by decide +kernel)
theorem fk_X1_32 : LK RX1 32 TX1 6 := Or.inl fkm_X1_32
theorem oi_X1_1 : Cond.methodLink RX1 1 Lib.objectInit ∈ gws := gw_in 299 (by decide +kernel) (by decide +kernel)
theorem cl_X0_11 : Cond.classLink RX0 11 RX2 ∈ gws := gw_in 269 (by decide +kernel) (by decide +kernel)
theorem fkm_X0_13 : Cond.fieldLink RX0 13 (TX0 0).1 (TX0 0).2.1 (TX0 0).2.2.1 ∈ gws := gw_in 322 (by decide +kernel) (by decide +kernel)
theorem fk_X0_13 : LK RX0 13 TX0 0 := Or.inl fkm_X0_13
theorem cl_X0_17 : Cond.classLink RX0 17 RX1 ∈ gws := gw_in 271 (by decide +kernel) (by decide +kernel)
theorem fkm_X0_19 : Cond.fieldLink RX0 19 (TX0 1).1 (TX0 1).2.1 (TX0 1).2.2.1 ∈ gws := gw_in 323 (by decide +kernel) (by decide +kernel)
theorem fk_X0_19 : LK RX0 19 TX0 1 := Or.inl fkm_X0_19
theorem cl_X0_25 : Cond.classLink RX0 25 "[[J" ∈ gws := gw_in 273 (by decide +kernel) (by decide +kernel)
theorem fkm_X0_27 : Cond.fieldLink RX0 27 (TX0 2).1 (TX0 2).2.1 (TX0 2).2.2.1 ∈ gws := gw_in 324 (by decide +kernel) (by decide +kernel)
theorem fk_X0_27 : LK RX0 27 TX0 2 := Or.inl fkm_X0_27
theorem fkm_X0_30 : Cond.fieldLink RX0 30 (TX0 3).1 (TX0 3).2.1 (TX0 3).2.2.1 ∈ gws := gw_in 325 (by decide +kernel) (by decide +kernel)
theorem fk_X0_30 : LK RX0 30 TX0 3 := Or.inl fkm_X0_30
theorem fkm_X0_34 : Cond.fieldLink RX0 34 (TX0 4).1 (TX0 4).2.1 (TX0 4).2.2.1 ∈ gws := gw_in 326 (by decide +kernel) (by decide +kernel)
theorem fk_X0_34 : LK RX0 34 TX0 4 := Or.inl fkm_X0_34
theorem fkm_X0_38 : Cond.fieldLink RX0 38 (TX0 5).1 (TX0 5).2.1 (TX0 5).2.2.1 ∈ gws := gw_in 327 (by decide +kernel) (by decide +kernel)
theorem fk_X0_38 : LK RX0 38 TX0 5 := Or.inl fkm_X0_38
theorem fkm_X0_41 : Cond.fieldLink RX0 41 (TX0 6).1 (TX0 6).2.1 (TX0 6).2.2.1 ∈ gws := gw_in 328 (by decide +kernel) (by decide +kernel)
theorem fk_X0_41 : LK RX0 41 TX0 6 := Or.inl fkm_X0_41
theorem fkm_X0_44 : Cond.fieldLink RX0 44 (TX0 7).1 (TX0 7).2.1 (TX0 7).2.2.1 ∈ gws := gw_in 329 (by decide +kernel) (by decide +kernel)
theorem fk_X0_44 : LK RX0 44 TX0 7 := Or.inl fkm_X0_44
theorem fkm_X0_48 : Cond.fieldLink RX0 48 (TX0 8).1 (TX0 8).2.1 (TX0 8).2.2.1 ∈ gws := gw_in 330 (by decide +kernel) (by decide +kernel)
theorem fk_X0_48 : LK RX0 48 TX0 8 := Or.inl fkm_X0_48
theorem fkm_X0_51 : Cond.fieldLink RX0 51 (TX0 9).1 (TX0 9).2.1 (TX0 9).2.2.1 ∈ gws := gw_in 331 (by decide +kernel) (by decide +kernel)
theorem fk_X0_51 : LK RX0 51 TX0 9 := Or.inl fkm_X0_51
theorem fkm_X0_54 : Cond.fieldLink RX0 54 (TX0 10).1 (TX0 10).2.1 (TX0 10).2.2.1 ∈ gws := gw_in 332 (by decide +kernel) (by decide +kernel)
theorem fk_X0_54 : LK RX0 54 TX0 10 := Or.inl fkm_X0_54
theorem iw_X1 : Cond.initialized RX1 ∈ gws := gw_in 122 (by decide +kernel) (by decide +kernel)
theorem nk_X0_17 : NK RX0 17 RX1 7 := ⟨gw_in 271 (by decide +kernel) (by decide +kernel), gw_in 295 (by decide +kernel) (by decide +kernel), iw_X1⟩
theorem cw_X1_init : Cond.code yX1_init cX1_init 1 (Option.none : Option Jvm.ClassFile.FieldType) ∈ gws := gw_in 298 (by decide +kernel) (by decide +kernel)
theorem lk_X0_58 : LKm RX0 58 m_X1_init 0 := ⟨(gw_in 296 (by decide +kernel) (by decide +kernel) : Cond.methodLink RX0 58 yX1_init ∈ gws), iw_X1, cw_X1_init, (show "TurningSums$Equation" ≠ _ by decide), (show "TurningSums$Equation" ≠ _ by decide), (by decide +kernel : (parseMethodDescriptor yX1_init.desc).map (fun d => d.parameters.length) = some 0)⟩
theorem im_X1_init : Cond.instanceMethod yX1_init ∈ gws := gw_in 297 (by decide +kernel) (by decide +kernel)
theorem iw_X2 : Cond.initialized RX2 ∈ gws := gw_in 121 (by decide +kernel) (by decide +kernel)
theorem nk_X0_11 : NK RX0 11 RX2 5 := ⟨gw_in 269 (by decide +kernel) (by decide +kernel), gw_in 274 (by decide +kernel) (by decide +kernel), iw_X2⟩
theorem cw_X2_init : Cond.code yX2_init cX2_init 1 (Option.none : Option Jvm.ClassFile.FieldType) ∈ gws := gw_in 277 (by decide +kernel) (by decide +kernel)
theorem lk_X0_57 : LKm RX0 57 m_X2_init 0 := ⟨(gw_in 275 (by decide +kernel) (by decide +kernel) : Cond.methodLink RX0 57 yX2_init ∈ gws), iw_X2, cw_X2_init, (show "TurningSums$Field" ≠ _ by decide), (show "TurningSums$Field" ≠ _ by decide), (by decide +kernel : (parseMethodDescriptor yX2_init.desc).map (fun d => d.parameters.length) = some 0)⟩
theorem im_X2_init : Cond.instanceMethod yX2_init ∈ gws := gw_in 276 (by decide +kernel) (by decide +kernel)
theorem oi_X0_3 : Cond.methodLink RX0 3 Lib.objectInit ∈ gws := gw_in 268 (by decide +kernel) (by decide +kernel)
theorem iw_X6 : Cond.initialized RX6 ∈ gws := gw_in 118 (by decide +kernel) (by decide +kernel)
theorem cw_X6_cell : Cond.code yX6_cell cX6_cell 2 (Option.some Jvm.ClassFile.FieldType.int) ∈ gws := gw_in 531 (by decide +kernel) (by decide +kernel)
theorem lk_X0_59 : LKm RX0 59 m_X6_cell 2 := ⟨(gw_in 721 (by decide +kernel) (by decide +kernel) : Cond.methodLink RX0 59 yX6_cell ∈ gws), iw_X6, cw_X6_cell, (show "TurningSums$Rows" ≠ _ by decide), (show "TurningSums$Rows" ≠ _ by decide), (by decide +kernel : (parseMethodDescriptor yX6_cell.desc).map (fun d => d.parameters.length) = some 2)⟩
theorem sw_X6_cell : Cond.static yX6_cell ∈ gws := gw_in 530 (by decide +kernel) (by decide +kernel)
theorem cw_X6_rowAt : Cond.code yX6_rowAt cX6_rowAt 2 (Option.some (Jvm.ClassFile.FieldType.array Jvm.ClassFile.FieldType.long)) ∈ gws := gw_in 785 (by decide +kernel) (by decide +kernel)
theorem lk_X0_65 : LKm RX0 65 m_X6_rowAt 2 := ⟨(gw_in 809 (by decide +kernel) (by decide +kernel) : Cond.methodLink RX0 65 yX6_rowAt ∈ gws), iw_X6, cw_X6_rowAt, (show "TurningSums$Rows" ≠ _ by decide), (show "TurningSums$Rows" ≠ _ by decide), (by decide +kernel : (parseMethodDescriptor yX6_rowAt.desc).map (fun d => d.parameters.length) = some 2)⟩
theorem sw_X6_rowAt : Cond.static yX6_rowAt ∈ gws := gw_in 784 (by decide +kernel) (by decide +kernel)
theorem iw_X0 : Cond.initialized RX0 ∈ gws := gw_in 120 (by decide +kernel) (by decide +kernel)
theorem cw_X0_rankOf : Cond.code yX0_rankOf cX0_rankOf 4 (Option.some Jvm.ClassFile.FieldType.int) ∈ gws := gw_in 656 (by decide +kernel) (by decide +kernel)
theorem lk_X0_69 : LKm RX0 69 m_X0_rankOf 1 := ⟨(gw_in 653 (by decide +kernel) (by decide +kernel) : Cond.methodLink RX0 69 yX0_rankOf ∈ gws), iw_X0, cw_X0_rankOf, (show "TurningSums$Book" ≠ _ by decide), (show "TurningSums$Book" ≠ _ by decide), (by decide +kernel : (parseMethodDescriptor yX0_rankOf.desc).map (fun d => d.parameters.length) = some 1)⟩
theorem im_X0_rankOf : Cond.instanceMethod yX0_rankOf ∈ gws := gw_in 655 (by decide +kernel) (by decide +kernel)
theorem se_X0_rankOf : Cond.selects RX0 yX0_rankOf yX0_rankOf ∈ gws := gw_in 9 (by decide +kernel) (by decide +kernel)
theorem cw_X6_put : Cond.code yX6_put cX6_put 4 (Option.none : Option Jvm.ClassFile.FieldType) ∈ gws := gw_in 213 (by decide +kernel) (by decide +kernel)
theorem lk_X0_73 : LKm RX0 73 m_X6_put 3 := ⟨(gw_in 703 (by decide +kernel) (by decide +kernel) : Cond.methodLink RX0 73 yX6_put ∈ gws), iw_X6, cw_X6_put, (show "TurningSums$Rows" ≠ _ by decide), (show "TurningSums$Rows" ≠ _ by decide), (by decide +kernel : (parseMethodDescriptor yX6_put.desc).map (fun d => d.parameters.length) = some 3)⟩
theorem cw_X6_mark : Cond.code yX6_mark cX6_mark 3 (Option.none : Option Jvm.ClassFile.FieldType) ∈ gws := gw_in 501 (by decide +kernel) (by decide +kernel)
theorem lk_X0_77 : LKm RX0 77 m_X6_mark 3 := ⟨(gw_in 704 (by decide +kernel) (by decide +kernel) : Cond.methodLink RX0 77 yX6_mark ∈ gws), iw_X6, cw_X6_mark, (show "TurningSums$Rows" ≠ _ by decide), (show "TurningSums$Rows" ≠ _ by decide), (by decide +kernel : (parseMethodDescriptor yX6_mark.desc).map (fun d => d.parameters.length) = some 3)⟩
theorem sw_X6_mark : Cond.static yX6_mark ∈ gws := gw_in 500 (by decide +kernel) (by decide +kernel)
theorem sw_X6_put : Cond.static yX6_put ∈ gws := gw_in 212 (by decide +kernel) (by decide +kernel)
theorem lk_X2_32 : LKm RX2 32 m_X6_mark 3 := ⟨(gw_in 695 (by decide +kernel) (by decide +kernel) : Cond.methodLink RX2 32 yX6_mark ∈ gws), iw_X6, cw_X6_mark, (show "TurningSums$Rows" ≠ _ by decide), (show "TurningSums$Rows" ≠ _ by decide), (by decide +kernel : (parseMethodDescriptor yX6_mark.desc).map (fun d => d.parameters.length) = some 3)⟩
theorem cw_X6_mod : Cond.code yX6_mod cX6_mod 4 (Option.some Jvm.ClassFile.FieldType.int) ∈ gws := gw_in 698 (by decide +kernel) (by decide +kernel)
theorem lk_X2_38 : LKm RX2 38 m_X6_mod 2 := ⟨(gw_in 696 (by decide +kernel) (by decide +kernel) : Cond.methodLink RX2 38 yX6_mod ∈ gws), iw_X6, cw_X6_mod, (show "TurningSums$Rows" ≠ _ by decide), (show "TurningSums$Rows" ≠ _ by decide), (by decide +kernel : (parseMethodDescriptor yX6_mod.desc).map (fun d => d.parameters.length) = some 2)⟩
theorem sw_X6_mod : Cond.static yX6_mod ∈ gws := gw_in 697 (by decide +kernel) (by decide +kernel)
theorem cw_X2_fillPowers : Cond.code yX2_fillPowers cX2_fillPowers 4 (Option.some Jvm.ClassFile.FieldType.boolean) ∈ gws := gw_in 694 (by decide +kernel) (by decide +kernel)
theorem lk_X2_28 : LKm RX2 28 m_X2_fillPowers 1 := ⟨(gw_in 691 (by decide +kernel) (by decide +kernel) : Cond.methodLink RX2 28 yX2_fillPowers ∈ gws), iw_X2, cw_X2_fillPowers, (show "TurningSums$Field" ≠ _ by decide), (show "TurningSums$Field" ≠ _ by decide), (by decide +kernel : (parseMethodDescriptor yX2_fillPowers.desc).map (fun d => d.parameters.length) = some 1)⟩
theorem im_X2_fillPowers : Cond.instanceMethod yX2_fillPowers ∈ gws := gw_in 693 (by decide +kernel) (by decide +kernel)
theorem se_X2_fillPowers : Cond.selects RX2 yX2_fillPowers yX2_fillPowers ∈ gws := gw_in 12 (by decide +kernel) (by decide +kernel)
theorem cw_X2_become : Cond.code yX2_become cX2_become 4 (Option.none : Option Jvm.ClassFile.FieldType) ∈ gws := gw_in 690 (by decide +kernel) (by decide +kernel)
theorem lk_X0_81 : LKm RX0 81 m_X2_become 2 := ⟨(gw_in 687 (by decide +kernel) (by decide +kernel) : Cond.methodLink RX0 81 yX2_become ∈ gws), iw_X2, cw_X2_become, (show "TurningSums$Field" ≠ _ by decide), (show "TurningSums$Field" ≠ _ by decide), (by decide +kernel : (parseMethodDescriptor yX2_become.desc).map (fun d => d.parameters.length) = some 2)⟩
theorem cw_X0_tell : Cond.code yX0_tell cX0_tell 5 (Option.none : Option Jvm.ClassFile.FieldType) ∈ gws := gw_in 702 (by decide +kernel) (by decide +kernel)
theorem lk_X0_85 : LKm RX0 85 m_X0_tell 3 := ⟨(gw_in 699 (by decide +kernel) (by decide +kernel) : Cond.methodLink RX0 85 yX0_tell ∈ gws), iw_X0, cw_X0_tell, (show "TurningSums$Book" ≠ _ by decide), (show "TurningSums$Book" ≠ _ by decide), (by decide +kernel : (parseMethodDescriptor yX0_tell.desc).map (fun d => d.parameters.length) = some 3)⟩
theorem im_X0_tell : Cond.instanceMethod yX0_tell ∈ gws := gw_in 701 (by decide +kernel) (by decide +kernel)
theorem se_X0_tell : Cond.selects RX0 yX0_tell yX0_tell ∈ gws := gw_in 13 (by decide +kernel) (by decide +kernel)
theorem im_X2_become : Cond.instanceMethod yX2_become ∈ gws := gw_in 688 (by decide +kernel) (by decide +kernel)
theorem se_X2_become : Cond.selects RX2 yX2_become yX2_become ∈ gws := gw_in 689 (by decide +kernel) (by decide +kernel)
theorem cw_X6_copy : Cond.code yX6_copy cX6_copy 3 (Option.none : Option Jvm.ClassFile.FieldType) ∈ gws := gw_in 812 (by decide +kernel) (by decide +kernel)
theorem lk_X0_89 : LKm RX0 89 m_X6_copy 2 := ⟨(gw_in 900 (by decide +kernel) (by decide +kernel) : Cond.methodLink RX0 89 yX6_copy ∈ gws), iw_X6, cw_X6_copy, (show "TurningSums$Rows" ≠ _ by decide), (show "TurningSums$Rows" ≠ _ by decide), (by decide +kernel : (parseMethodDescriptor yX6_copy.desc).map (fun d => d.parameters.length) = some 2)⟩
theorem sw_X6_copy : Cond.static yX6_copy ∈ gws := gw_in 811 (by decide +kernel) (by decide +kernel)
theorem lk_X1_35 : LKm RX1 35 m_X6_mark 3 := ⟨(gw_in 758 (by decide +kernel) (by decide +kernel) : Cond.methodLink RX1 35 yX6_mark ∈ gws), iw_X6, cw_X6_mark, (show "TurningSums$Rows" ≠ _ by decide), (show "TurningSums$Rows" ≠ _ by decide), (by decide +kernel : (parseMethodDescriptor yX6_mark.desc).map (fun d => d.parameters.length) = some 3)⟩
theorem lk_X1_41 : LKm RX1 41 m_X6_cell 2 := ⟨(gw_in 1069 (by decide +kernel) (by decide +kernel) : Cond.methodLink RX1 41 yX6_cell ∈ gws), iw_X6, cw_X6_cell, (show "TurningSums$Rows" ≠ _ by decide), (show "TurningSums$Rows" ≠ _ by decide), (by decide +kernel : (parseMethodDescriptor yX6_cell.desc).map (fun d => d.parameters.length) = some 2)⟩
theorem lk_X1_45 : LKm RX1 45 m_X6_mod 2 := ⟨(gw_in 1070 (by decide +kernel) (by decide +kernel) : Cond.methodLink RX1 45 yX6_mod ∈ gws), iw_X6, cw_X6_mod, (show "TurningSums$Rows" ≠ _ by decide), (show "TurningSums$Rows" ≠ _ by decide), (by decide +kernel : (parseMethodDescriptor yX6_mod.desc).map (fun d => d.parameters.length) = some 2)⟩
theorem cw_X6_setWhole : Cond.code yX6_setWhole cX6_setWhole 4 (Option.none : Option Jvm.ClassFile.FieldType) ∈ gws := gw_in 796 (by decide +kernel) (by decide +kernel)
theorem lk_X1_49 : LKm RX1 49 m_X6_setWhole 2 := ⟨(gw_in 1060 (by decide +kernel) (by decide +kernel) : Cond.methodLink RX1 49 yX6_setWhole ∈ gws), iw_X6, cw_X6_setWhole, (show "TurningSums$Rows" ≠ _ by decide), (show "TurningSums$Rows" ≠ _ by decide), (by decide +kernel : (parseMethodDescriptor yX6_setWhole.desc).map (fun d => d.parameters.length) = some 2)⟩
theorem lk_X1_69 : LKm RX1 69 m_X6_copy 2 := ⟨(gw_in 1073 (by decide +kernel) (by decide +kernel) : Cond.methodLink RX1 69 yX6_copy ∈ gws), iw_X6, cw_X6_copy, (show "TurningSums$Rows" ≠ _ by decide), (show "TurningSums$Rows" ≠ _ by decide), (by decide +kernel : (parseMethodDescriptor yX6_copy.desc).map (fun d => d.parameters.length) = some 2)⟩
theorem cw_X1_valueAt : Cond.code yX1_valueAt cX1_valueAt 5 (Option.some Jvm.ClassFile.FieldType.int) ∈ gws := gw_in 1068 (by decide +kernel) (by decide +kernel)
theorem lk_X1_57 : LKm RX1 57 m_X1_valueAt 2 := ⟨(gw_in 1065 (by decide +kernel) (by decide +kernel) : Cond.methodLink RX1 57 yX1_valueAt ∈ gws), iw_X1, cw_X1_valueAt, (show "TurningSums$Equation" ≠ _ by decide), (show "TurningSums$Equation" ≠ _ by decide), (by decide +kernel : (parseMethodDescriptor yX1_valueAt.desc).map (fun d => d.parameters.length) = some 2)⟩
theorem cw_X6_at : Cond.code yX6_at cX6_at 2 (Option.some Jvm.ClassFile.FieldType.long) ∈ gws := gw_in 206 (by decide +kernel) (by decide +kernel)
theorem lk_X1_61 : LKm RX1 61 m_X6_at 2 := ⟨(gw_in 1071 (by decide +kernel) (by decide +kernel) : Cond.methodLink RX1 61 yX6_at ∈ gws), iw_X6, cw_X6_at, (show "TurningSums$Rows" ≠ _ by decide), (show "TurningSums$Rows" ≠ _ by decide), (by decide +kernel : (parseMethodDescriptor yX6_at.desc).map (fun d => d.parameters.length) = some 2)⟩
theorem lk_X1_65 : LKm RX1 65 m_X6_put 3 := ⟨(gw_in 1072 (by decide +kernel) (by decide +kernel) : Cond.methodLink RX1 65 yX6_put ∈ gws), iw_X6, cw_X6_put, (show "TurningSums$Rows" ≠ _ by decide), (show "TurningSums$Rows" ≠ _ by decide), (by decide +kernel : (parseMethodDescriptor yX6_put.desc).map (fun d => d.parameters.length) = some 3)⟩
theorem sw_X6_at : Cond.static yX6_at ∈ gws := gw_in 205 (by decide +kernel) (by decide +kernel)
theorem im_X1_valueAt : Cond.instanceMethod yX1_valueAt ∈ gws := gw_in 1067 (by decide +kernel) (by decide +kernel)
theorem se_X1_valueAt : Cond.selects RX1 yX1_valueAt yX1_valueAt ∈ gws := gw_in 28 (by decide +kernel) (by decide +kernel)
theorem sw_X6_setWhole : Cond.static yX6_setWhole ∈ gws := gw_in 795 (by decide +kernel) (by decide +kernel)
theorem cw_X1_spread : Cond.code yX1_spread cX1_spread 8 (Option.none : Option Jvm.ClassFile.FieldType) ∈ gws := gw_in 1064 (by decide +kernel) (by decide +kernel)
theorem lk_X1_53 : LKm RX1 53 m_X1_spread 1 := ⟨(gw_in 1061 (by decide +kernel) (by decide +kernel) : Cond.methodLink RX1 53 yX1_spread ∈ gws), iw_X1, cw_X1_spread, (show "TurningSums$Equation" ≠ _ by decide), (show "TurningSums$Equation" ≠ _ by decide), (by decide +kernel : (parseMethodDescriptor yX1_spread.desc).map (fun d => d.parameters.length) = some 1)⟩
theorem im_X1_spread : Cond.instanceMethod yX1_spread ∈ gws := gw_in 1063 (by decide +kernel) (by decide +kernel)
theorem se_X1_spread : Cond.selects RX1 yX1_spread yX1_spread ∈ gws := gw_in 27 (by decide +kernel) (by decide +kernel)
theorem lk_X2_42 : LKm RX2 42 m_X6_cell 2 := ⟨(gw_in 865 (by decide +kernel) (by decide +kernel) : Cond.methodLink RX2 42 yX6_cell ∈ gws), iw_X6, cw_X6_cell, (show "TurningSums$Rows" ≠ _ by decide), (show "TurningSums$Rows" ≠ _ by decide), (by decide +kernel : (parseMethodDescriptor yX6_cell.desc).map (fun d => d.parameters.length) = some 2)⟩
theorem gs_X5_15 : Cond.fieldLink RX5 15 "TurningSums$Ring" "LENGTHS" "[I" ∈ gws := gw_in 840 (by decide +kernel) (by decide +kernel)
theorem iw_X5 : Cond.initialized RX5 ∈ gws := gw_in 119 (by decide +kernel) (by decide +kernel)
theorem cw_X5_lengthOf : Cond.code yX5_lengthOf cX5_lengthOf 1 (Option.some Jvm.ClassFile.FieldType.int) ∈ gws := gw_in 839 (by decide +kernel) (by decide +kernel)
theorem lk_X2_46 : LKm RX2 46 m_X5_lengthOf 1 := ⟨(gw_in 954 (by decide +kernel) (by decide +kernel) : Cond.methodLink RX2 46 yX5_lengthOf ∈ gws), iw_X5, cw_X5_lengthOf, (show "TurningSums$Ring" ≠ _ by decide), (show "TurningSums$Ring" ≠ _ by decide), (by decide +kernel : (parseMethodDescriptor yX5_lengthOf.desc).map (fun d => d.parameters.length) = some 1)⟩
theorem sw_X5_lengthOf : Cond.static yX5_lengthOf ∈ gws := gw_in 838 (by decide +kernel) (by decide +kernel)
theorem iw_X8 : Cond.initialized RX8 ∈ gws := gw_in 128 (by decide +kernel) (by decide +kernel)
theorem cw_X8_commonPart : Cond.code yX8_commonPart cX8_commonPart 3 (Option.some Jvm.ClassFile.FieldType.int) ∈ gws := gw_in 878 (by decide +kernel) (by decide +kernel)
theorem lk_X2_52 : LKm RX2 52 m_X8_commonPart 2 := ⟨(gw_in 876 (by decide +kernel) (by decide +kernel) : Cond.methodLink RX2 52 yX8_commonPart ∈ gws), iw_X8, cw_X8_commonPart, (show "TurningSums$Squares" ≠ _ by decide), (show "TurningSums$Squares" ≠ _ by decide), (by decide +kernel : (parseMethodDescriptor yX8_commonPart.desc).map (fun d => d.parameters.length) = some 2)⟩
theorem sw_X8_commonPart : Cond.static yX8_commonPart ∈ gws := gw_in 877 (by decide +kernel) (by decide +kernel)
theorem fkm_X5_11 : Cond.fieldLink RX5 11 (TX5 0).1 (TX5 0).2.1 (TX5 0).2.2.1 ∈ gws := gw_in 257 (by decide +kernel) (by decide +kernel)
theorem fk_X5_11 : LK RX5 11 TX5 0 := Or.inl fkm_X5_11
theorem lk_X5_19 : LKm RX5 19 m_X6_setWhole 2 := ⟨(gw_in 825 (by decide +kernel) (by decide +kernel) : Cond.methodLink RX5 19 yX6_setWhole ∈ gws), iw_X6, cw_X6_setWhole, (show "TurningSums$Rows" ≠ _ by decide), (show "TurningSums$Rows" ≠ _ by decide), (by decide +kernel : (parseMethodDescriptor yX6_setWhole.desc).map (fun d => d.parameters.length) = some 2)⟩
theorem iw_J9 : Cond.initialized RJ9 ∈ gws := gw_in 126 (by decide +kernel) (by decide +kernel)
theorem cw_J9_floorMod_7cf53 : Cond.code yJ9_floorMod_7cf53 cJ9_floorMod_7cf53 3 (Option.some Jvm.ClassFile.FieldType.int) ∈ gws := gw_in 832 (by decide +kernel) (by decide +kernel)
theorem lk_X5_25 : LKm RX5 25 m_J9_floorMod_7cf53 2 := ⟨(gw_in 830 (by decide +kernel) (by decide +kernel) : Cond.methodLink RX5 25 yJ9_floorMod_7cf53 ∈ gws), iw_J9, cw_J9_floorMod_7cf53, (show "java/lang/Math" ≠ _ by decide), (show "java/lang/Math" ≠ _ by decide), (by decide +kernel : (parseMethodDescriptor yJ9_floorMod_7cf53.desc).map (fun d => d.parameters.length) = some 2)⟩
theorem sw_J9_floorMod_7cf53 : Cond.static yJ9_floorMod_7cf53 ∈ gws := gw_in 831 (by decide +kernel) (by decide +kernel)
theorem lk_X5_31 : LKm RX5 31 m_X5_lengthOf 1 := ⟨(gw_in 837 (by decide +kernel) (by decide +kernel) : Cond.methodLink RX5 31 yX5_lengthOf ∈ gws), iw_X5, cw_X5_lengthOf, (show "TurningSums$Ring" ≠ _ by decide), (show "TurningSums$Ring" ≠ _ by decide), (by decide +kernel : (parseMethodDescriptor yX5_lengthOf.desc).map (fun d => d.parameters.length) = some 1)⟩
theorem lk_X5_50 : LKm RX5 50 m_X6_copy 2 := ⟨(gw_in 847 (by decide +kernel) (by decide +kernel) : Cond.methodLink RX5 50 yX6_copy ∈ gws), iw_X6, cw_X6_copy, (show "TurningSums$Rows" ≠ _ by decide), (show "TurningSums$Rows" ≠ _ by decide), (by decide +kernel : (parseMethodDescriptor yX6_copy.desc).map (fun d => d.parameters.length) = some 2)⟩
theorem lk_X5_35 : LKm RX5 35 m_X6_at 2 := ⟨(gw_in 842 (by decide +kernel) (by decide +kernel) : Cond.methodLink RX5 35 yX6_at ∈ gws), iw_X6, cw_X6_at, (show "TurningSums$Rows" ≠ _ by decide), (show "TurningSums$Rows" ≠ _ by decide), (by decide +kernel : (parseMethodDescriptor yX6_at.desc).map (fun d => d.parameters.length) = some 2)⟩
theorem gs_X5_39 : Cond.fieldLink RX5 39 "TurningSums$Ring" "LEAST" "[I" ∈ gws := gw_in 843 (by decide +kernel) (by decide +kernel)
theorem lk_X5_42 : LKm RX5 42 m_X6_cell 2 := ⟨(gw_in 845 (by decide +kernel) (by decide +kernel) : Cond.methodLink RX5 42 yX6_cell ∈ gws), iw_X6, cw_X6_cell, (show "TurningSums$Rows" ≠ _ by decide), (show "TurningSums$Rows" ≠ _ by decide), (by decide +kernel : (parseMethodDescriptor yX6_cell.desc).map (fun d => d.parameters.length) = some 2)⟩
theorem lk_X5_46 : LKm RX5 46 m_X6_put 3 := ⟨(gw_in 846 (by decide +kernel) (by decide +kernel) : Cond.methodLink RX5 46 yX6_put ∈ gws), iw_X6, cw_X6_put, (show "TurningSums$Rows" ≠ _ by decide), (show "TurningSums$Rows" ≠ _ by decide), (by decide +kernel : (parseMethodDescriptor yX6_put.desc).map (fun d => d.parameters.length) = some 3)⟩
theorem cw_X5_clear : Cond.code yX5_clear cX5_clear 1 (Option.none : Option Jvm.ClassFile.FieldType) ∈ gws := gw_in 824 (by decide +kernel) (by decide +kernel)
theorem lk_X2_58 : LKm RX2 58 m_X5_clear 0 := ⟨(gw_in 860 (by decide +kernel) (by decide +kernel) : Cond.methodLink RX2 58 yX5_clear ∈ gws), iw_X5, cw_X5_clear, (show "TurningSums$Ring" ≠ _ by decide), (show "TurningSums$Ring" ≠ _ by decide), (by decide +kernel : (parseMethodDescriptor yX5_clear.desc).map (fun d => d.parameters.length) = some 0)⟩
theorem cw_X5_settle : Cond.code yX5_settle cX5_settle 9 (Option.none : Option Jvm.ClassFile.FieldType) ∈ gws := gw_in 836 (by decide +kernel) (by decide +kernel)
theorem lk_X2_68 : LKm RX2 68 m_X5_settle 2 := ⟨(gw_in 867 (by decide +kernel) (by decide +kernel) : Cond.methodLink RX2 68 yX5_settle ∈ gws), iw_X5, cw_X5_settle, (show "TurningSums$Ring" ≠ _ by decide), (show "TurningSums$Ring" ≠ _ by decide), (by decide +kernel : (parseMethodDescriptor yX5_settle.desc).map (fun d => d.parameters.length) = some 2)⟩
theorem im_X5_settle : Cond.instanceMethod yX5_settle ∈ gws := gw_in 834 (by decide +kernel) (by decide +kernel)
theorem se_X5_settle : Cond.selects RX5 yX5_settle yX5_settle ∈ gws := gw_in 835 (by decide +kernel) (by decide +kernel)
theorem cw_X2_characterAt : Cond.code yX2_characterAt cX2_characterAt 3 (Option.some Jvm.ClassFile.FieldType.int) ∈ gws := gw_in 864 (by decide +kernel) (by decide +kernel)
theorem lk_X2_61 : LKm RX2 61 m_X2_characterAt 2 := ⟨(gw_in 861 (by decide +kernel) (by decide +kernel) : Cond.methodLink RX2 61 yX2_characterAt ∈ gws), iw_X2, cw_X2_characterAt, (show "TurningSums$Field" ≠ _ by decide), (show "TurningSums$Field" ≠ _ by decide), (by decide +kernel : (parseMethodDescriptor yX2_characterAt.desc).map (fun d => d.parameters.length) = some 2)⟩
theorem cw_X5_collect : Cond.code yX5_collect cX5_collect 6 (Option.none : Option Jvm.ClassFile.FieldType) ∈ gws := gw_in 829 (by decide +kernel) (by decide +kernel)
theorem lk_X2_64 : LKm RX2 64 m_X5_collect 3 := ⟨(gw_in 866 (by decide +kernel) (by decide +kernel) : Cond.methodLink RX2 64 yX5_collect ∈ gws), iw_X5, cw_X5_collect, (show "TurningSums$Ring" ≠ _ by decide), (show "TurningSums$Ring" ≠ _ by decide), (by decide +kernel : (parseMethodDescriptor yX5_collect.desc).map (fun d => d.parameters.length) = some 3)⟩
theorem im_X5_collect : Cond.instanceMethod yX5_collect ∈ gws := gw_in 827 (by decide +kernel) (by decide +kernel)
theorem se_X5_collect : Cond.selects RX5 yX5_collect yX5_collect ∈ gws := gw_in 828 (by decide +kernel) (by decide +kernel)
theorem im_X2_characterAt : Cond.instanceMethod yX2_characterAt ∈ gws := gw_in 862 (by decide +kernel) (by decide +kernel)
theorem se_X2_characterAt : Cond.selects RX2 yX2_characterAt yX2_characterAt ∈ gws := gw_in 863 (by decide +kernel) (by decide +kernel)
theorem im_X5_clear : Cond.instanceMethod yX5_clear ∈ gws := gw_in 822 (by decide +kernel) (by decide +kernel)
theorem se_X5_clear : Cond.selects RX5 yX5_clear yX5_clear ∈ gws := gw_in 823 (by decide +kernel) (by decide +kernel)
theorem cw_X2_rowLength : Cond.code yX2_rowLength cX2_rowLength 1 (Option.some Jvm.ClassFile.FieldType.int) ∈ gws := gw_in 953 (by decide +kernel) (by decide +kernel)
theorem lk_X2_72 : LKm RX2 72 m_X2_rowLength 0 := ⟨(gw_in 1015 (by decide +kernel) (by decide +kernel) : Cond.methodLink RX2 72 yX2_rowLength ∈ gws), iw_X2, cw_X2_rowLength, (show "TurningSums$Field" ≠ _ by decide), (show "TurningSums$Field" ≠ _ by decide), (by decide +kernel : (parseMethodDescriptor yX2_rowLength.desc).map (fun d => d.parameters.length) = some 0)⟩
theorem lk_X2_76 : LKm RX2 76 m_X6_at 2 := ⟨(gw_in 1016 (by decide +kernel) (by decide +kernel) : Cond.methodLink RX2 76 yX6_at ∈ gws), iw_X6, cw_X6_at, (show "TurningSums$Rows" ≠ _ by decide), (show "TurningSums$Rows" ≠ _ by decide), (by decide +kernel : (parseMethodDescriptor yX6_at.desc).map (fun d => d.parameters.length) = some 2)⟩
theorem im_X2_rowLength : Cond.instanceMethod yX2_rowLength ∈ gws := gw_in 951 (by decide +kernel) (by decide +kernel)
theorem se_X2_rowLength : Cond.selects RX2 yX2_rowLength yX2_rowLength ∈ gws := gw_in 952 (by decide +kernel) (by decide +kernel)
theorem cw_X2_logOf : Cond.code yX2_logOf cX2_logOf 2 (Option.some Jvm.ClassFile.FieldType.int) ∈ gws := gw_in 966 (by decide +kernel) (by decide +kernel)
theorem lk_X2_80 : LKm RX2 80 m_X2_logOf 1 := ⟨(gw_in 1129 (by decide +kernel) (by decide +kernel) : Cond.methodLink RX2 80 yX2_logOf ∈ gws), iw_X2, cw_X2_logOf, (show "TurningSums$Field" ≠ _ by decide), (show "TurningSums$Field" ≠ _ by decide), (by decide +kernel : (parseMethodDescriptor yX2_logOf.desc).map (fun d => d.parameters.length) = some 1)⟩
theorem im_X2_logOf : Cond.instanceMethod yX2_logOf ∈ gws := gw_in 964 (by decide +kernel) (by decide +kernel)
theorem se_X2_logOf : Cond.selects RX2 yX2_logOf yX2_logOf ∈ gws := gw_in 965 (by decide +kernel) (by decide +kernel)
theorem cw_X2_isOrderPower : Cond.code yX2_isOrderPower cX2_isOrderPower 2 (Option.some Jvm.ClassFile.FieldType.boolean) ∈ gws := gw_in 1168 (by decide +kernel) (by decide +kernel)
theorem lk_X2_83 : LKm RX2 83 m_X2_isOrderPower 1 := ⟨(gw_in 1165 (by decide +kernel) (by decide +kernel) : Cond.methodLink RX2 83 yX2_isOrderPower ∈ gws), iw_X2, cw_X2_isOrderPower, (show "TurningSums$Field" ≠ _ by decide), (show "TurningSums$Field" ≠ _ by decide), (by decide +kernel : (parseMethodDescriptor yX2_isOrderPower.desc).map (fun d => d.parameters.length) = some 1)⟩
theorem im_X2_isOrderPower : Cond.instanceMethod yX2_isOrderPower ∈ gws := gw_in 1167 (by decide +kernel) (by decide +kernel)
theorem se_X2_isOrderPower : Cond.selects RX2 yX2_isOrderPower yX2_isOrderPower ∈ gws := gw_in 31 (by decide +kernel) (by decide +kernel)
theorem lk_X5_54 : LKm RX5 54 m_X5_clear 0 := ⟨(gw_in 821 (by decide +kernel) (by decide +kernel) : Cond.methodLink RX5 54 yX5_clear ∈ gws), iw_X5, cw_X5_clear, (show "TurningSums$Ring" ≠ _ by decide), (show "TurningSums$Ring" ≠ _ by decide), (by decide +kernel : (parseMethodDescriptor yX5_clear.desc).map (fun d => d.parameters.length) = some 0)⟩
theorem lk_X5_61 : LKm RX5 61 m_X5_settle 2 := ⟨(gw_in 833 (by decide +kernel) (by decide +kernel) : Cond.methodLink RX5 61 yX5_settle ∈ gws), iw_X5, cw_X5_settle, (show "TurningSums$Ring" ≠ _ by decide), (show "TurningSums$Ring" ≠ _ by decide), (by decide +kernel : (parseMethodDescriptor yX5_settle.desc).map (fun d => d.parameters.length) = some 2)⟩
theorem lk_X5_57 : LKm RX5 57 m_X5_collect 3 := ⟨(gw_in 826 (by decide +kernel) (by decide +kernel) : Cond.methodLink RX5 57 yX5_collect ∈ gws), iw_X5, cw_X5_collect, (show "TurningSums$Ring" ≠ _ by decide), (show "TurningSums$Ring" ≠ _ by decide), (by decide +kernel : (parseMethodDescriptor yX5_collect.desc).map (fun d => d.parameters.length) = some 3)⟩
theorem cw_X2_jacobiSum : Cond.code yX2_jacobiSum cX2_jacobiSum 8 (Option.none : Option Jvm.ClassFile.FieldType) ∈ gws := gw_in 859 (by decide +kernel) (by decide +kernel)
theorem lk_X2_93 : LKm RX2 93 m_X2_jacobiSum 4 := ⟨(gw_in 1095 (by decide +kernel) (by decide +kernel) : Cond.methodLink RX2 93 yX2_jacobiSum ∈ gws), iw_X2, cw_X2_jacobiSum, (show "TurningSums$Field" ≠ _ by decide), (show "TurningSums$Field" ≠ _ by decide), (by decide +kernel : (parseMethodDescriptor yX2_jacobiSum.desc).map (fun d => d.parameters.length) = some 4)⟩
theorem lk_X2_97 : LKm RX2 97 m_X6_copy 2 := ⟨(gw_in 1096 (by decide +kernel) (by decide +kernel) : Cond.methodLink RX2 97 yX6_copy ∈ gws), iw_X6, cw_X6_copy, (show "TurningSums$Rows" ≠ _ by decide), (show "TurningSums$Rows" ≠ _ by decide), (by decide +kernel : (parseMethodDescriptor yX6_copy.desc).map (fun d => d.parameters.length) = some 2)⟩
theorem cw_X5_multiply : Cond.code yX5_multiply cX5_multiply 8 (Option.none : Option Jvm.ClassFile.FieldType) ∈ gws := gw_in 891 (by decide +kernel) (by decide +kernel)
theorem lk_X2_101 : LKm RX2 101 m_X5_multiply 4 := ⟨(gw_in 1097 (by decide +kernel) (by decide +kernel) : Cond.methodLink RX2 101 yX5_multiply ∈ gws), iw_X5, cw_X5_multiply, (show "TurningSums$Ring" ≠ _ by decide), (show "TurningSums$Ring" ≠ _ by decide), (by decide +kernel : (parseMethodDescriptor yX5_multiply.desc).map (fun d => d.parameters.length) = some 4)⟩
theorem im_X5_multiply : Cond.instanceMethod yX5_multiply ∈ gws := gw_in 889 (by decide +kernel) (by decide +kernel)
theorem se_X5_multiply : Cond.selects RX5 yX5_multiply yX5_multiply ∈ gws := gw_in 890 (by decide +kernel) (by decide +kernel)
theorem im_X2_jacobiSum : Cond.instanceMethod yX2_jacobiSum ∈ gws := gw_in 857 (by decide +kernel) (by decide +kernel)
theorem se_X2_jacobiSum : Cond.selects RX2 yX2_jacobiSum yX2_jacobiSum ∈ gws := gw_in 858 (by decide +kernel) (by decide +kernel)
theorem cw_X2_liftedSum : Cond.code yX2_liftedSum cX2_liftedSum 8 (Option.some Jvm.ClassFile.FieldType.long) ∈ gws := gw_in 1094 (by decide +kernel) (by decide +kernel)
theorem lk_X2_89 : LKm RX2 89 m_X2_liftedSum 6 := ⟨(gw_in 1091 (by decide +kernel) (by decide +kernel) : Cond.methodLink RX2 89 yX2_liftedSum ∈ gws), iw_X2, cw_X2_liftedSum, (show "TurningSums$Field" ≠ _ by decide), (show "TurningSums$Field" ≠ _ by decide), (by decide +kernel : (parseMethodDescriptor yX2_liftedSum.desc).map (fun d => d.parameters.length) = some 6)⟩
theorem im_X2_liftedSum : Cond.instanceMethod yX2_liftedSum ∈ gws := gw_in 1093 (by decide +kernel) (by decide +kernel)
theorem se_X2_liftedSum : Cond.selects RX2 yX2_liftedSum yX2_liftedSum ∈ gws := gw_in 30 (by decide +kernel) (by decide +kernel)
theorem cw_X2_oppositePair : Cond.code yX2_oppositePair cX2_oppositePair 4 (Option.some Jvm.ClassFile.FieldType.int) ∈ gws := gw_in 1090 (by decide +kernel) (by decide +kernel)
theorem lk_X2_86 : LKm RX2 86 m_X2_oppositePair 2 := ⟨(gw_in 1087 (by decide +kernel) (by decide +kernel) : Cond.methodLink RX2 86 yX2_oppositePair ∈ gws), iw_X2, cw_X2_oppositePair, (show "TurningSums$Field" ≠ _ by decide), (show "TurningSums$Field" ≠ _ by decide), (by decide +kernel : (parseMethodDescriptor yX2_oppositePair.desc).map (fun d => d.parameters.length) = some 2)⟩
theorem im_X2_oppositePair : Cond.instanceMethod yX2_oppositePair ∈ gws := gw_in 1089 (by decide +kernel) (by decide +kernel)
theorem se_X2_oppositePair : Cond.selects RX2 yX2_oppositePair yX2_oppositePair ∈ gws := gw_in 29 (by decide +kernel) (by decide +kernel)
theorem gs_J0_38 : Cond.fieldLink RJ0 38 "java/lang/String" "COMPACT_STRINGS" "Z" ∈ gws := gw_in 164 (by decide +kernel) (by decide +kernel)
theorem fs_J0_15 : Cond.fieldLink RJ0 15 "java/lang/String" "coder" "B" ∈ gws := gw_in 2177 (by decide +kernel) (by decide +kernel)
theorem fs_J0_9 : Cond.fieldLink RJ0 9 "java/lang/String" "value" "[B" ∈ gws := gw_in 2176 (by decide +kernel) (by decide +kernel)
theorem iw_J0 : Cond.initialized RJ0 ∈ gws := gw_in 114 (by decide +kernel) (by decide +kernel)
theorem cw_J0_coder_7d493 : Cond.code yJ0_coder_7d493 cJ0_coder_7d493 1 (Option.some Jvm.ClassFile.FieldType.byte) ∈ gws := gw_in 163 (by decide +kernel) (by decide +kernel)
theorem lk_J0_335 : LKm RJ0 335 m_J0_coder_7d493 0 := ⟨(gw_in 160 (by decide +kernel) (by decide +kernel) : Cond.methodLink RJ0 335 yJ0_coder_7d493 ∈ gws), iw_J0, cw_J0_coder_7d493, (show "java/lang/String" ≠ _ by decide), (show "java/lang/String" ≠ _ by decide), (by decide +kernel : (parseMethodDescriptor yJ0_coder_7d493.desc).map (fun d => d.parameters.length) = some 0)⟩
theorem im_J0_coder_7d493 : Cond.instanceMethod yJ0_coder_7d493 ∈ gws := gw_in 161 (by decide +kernel) (by decide +kernel)
theorem se_J0_coder_7d493 : Cond.selects RJ0 yJ0_coder_7d493 yJ0_coder_7d493 ∈ gws := gw_in 162 (by decide +kernel) (by decide +kernel)
theorem gs_J0_1053 : Cond.fieldLink RJ0 1053 "jdk/internal/util/Preconditions" "SIOOBE_FORMATTER" "Ljava/util/function/BiFunction;" ∈ gws := gw_in 180 (by decide +kernel) (by decide +kernel)
theorem iw_J3 : Cond.initialized RJ3 ∈ gws := gw_in 116 (by decide +kernel) (by decide +kernel)
theorem cw_J3_checkIndex_8e157 : Cond.code yJ3_checkIndex_8e157 cJ3_checkIndex_8e157 3 (Option.some Jvm.ClassFile.FieldType.int) ∈ gws := gw_in 184 (by decide +kernel) (by decide +kernel)
theorem lk_J0_1059 : LKm RJ0 1059 m_J3_checkIndex_8e157 3 := ⟨(gw_in 182 (by decide +kernel) (by decide +kernel) : Cond.methodLink RJ0 1059 yJ3_checkIndex_8e157 ∈ gws), iw_J3, cw_J3_checkIndex_8e157, (show "jdk/internal/util/Preconditions" ≠ _ by decide), (show "jdk/internal/util/Preconditions" ≠ _ by decide), (by decide +kernel : (parseMethodDescriptor yJ3_checkIndex_8e157.desc).map (fun d => d.parameters.length) = some 3)⟩
theorem sw_J3_checkIndex_8e157 : Cond.static yJ3_checkIndex_8e157 ∈ gws := gw_in 183 (by decide +kernel) (by decide +kernel)
theorem cw_J0_checkIndex_df160 : Cond.code yJ0_checkIndex_df160 cJ0_checkIndex_df160 2 (Option.none : Option Jvm.ClassFile.FieldType) ∈ gws := gw_in 179 (by decide +kernel) (by decide +kernel)
theorem lk_J1_9 : LKm RJ1 9 m_J0_checkIndex_df160 2 := ⟨(gw_in 177 (by decide +kernel) (by decide +kernel) : Cond.methodLink RJ1 9 yJ0_checkIndex_df160 ∈ gws), iw_J0, cw_J0_checkIndex_df160, (show "java/lang/String" ≠ _ by decide), (show "java/lang/String" ≠ _ by decide), (by decide +kernel : (parseMethodDescriptor yJ0_checkIndex_df160.desc).map (fun d => d.parameters.length) = some 2)⟩
theorem sw_J0_checkIndex_df160 : Cond.static yJ0_checkIndex_df160 ∈ gws := gw_in 178 (by decide +kernel) (by decide +kernel)
theorem cw_J0_isLatin1_aae02 : Cond.code yJ0_isLatin1_aae02 cJ0_isLatin1_aae02 1 (Option.some Jvm.ClassFile.FieldType.boolean) ∈ gws := gw_in 173 (by decide +kernel) (by decide +kernel)
theorem lk_J0_492 : LKm RJ0 492 m_J0_isLatin1_aae02 0 := ⟨(gw_in 170 (by decide +kernel) (by decide +kernel) : Cond.methodLink RJ0 492 yJ0_isLatin1_aae02 ∈ gws), iw_J0, cw_J0_isLatin1_aae02, (show "java/lang/String" ≠ _ by decide), (show "java/lang/String" ≠ _ by decide), (by decide +kernel : (parseMethodDescriptor yJ0_isLatin1_aae02.desc).map (fun d => d.parameters.length) = some 0)⟩
theorem iw_J1 : Cond.initialized RJ1 ∈ gws := gw_in 115 (by decide +kernel) (by decide +kernel)
theorem cw_J1_charAt_3b067 : Cond.code yJ1_charAt_3b067 cJ1_charAt_3b067 2 (Option.some Jvm.ClassFile.FieldType.char) ∈ gws := gw_in 176 (by decide +kernel) (by decide +kernel)
theorem lk_J0_495 : LKm RJ0 495 m_J1_charAt_3b067 2 := ⟨(gw_in 174 (by decide +kernel) (by decide +kernel) : Cond.methodLink RJ0 495 yJ1_charAt_3b067 ∈ gws), iw_J1, cw_J1_charAt_3b067, (show "java/lang/StringLatin1" ≠ _ by decide), (show "java/lang/StringLatin1" ≠ _ by decide), (by decide +kernel : (parseMethodDescriptor yJ1_charAt_3b067.desc).map (fun d => d.parameters.length) = some 2)⟩
theorem sw_J1_charAt_3b067 : Cond.static yJ1_charAt_3b067 ∈ gws := gw_in 175 (by decide +kernel) (by decide +kernel)
theorem im_J0_isLatin1_aae02 : Cond.instanceMethod yJ0_isLatin1_aae02 ∈ gws := gw_in 171 (by decide +kernel) (by decide +kernel)
theorem se_J0_isLatin1_aae02 : Cond.selects RJ0 yJ0_isLatin1_aae02 yJ0_isLatin1_aae02 ∈ gws := gw_in 172 (by decide +kernel) (by decide +kernel)
theorem kj_X9_73 : Cond.constantLong RX9 73 (32 : Int64) ∈ gws := gw_in 210 (by decide +kernel) (by decide +kernel)
theorem fkm_X9_11 : Cond.fieldLink RX9 11 (TX9 0).1 (TX9 0).2.1 (TX9 0).2.2.1 ∈ gws := gw_in 214 (by decide +kernel) (by decide +kernel)
theorem fk_X9_11 : LK RX9 11 TX9 0 := Or.inl fkm_X9_11
theorem fkm_X9_15 : Cond.fieldLink RX9 15 (TX9 1).1 (TX9 1).2.1 (TX9 1).2.2.1 ∈ gws := gw_in 215 (by decide +kernel) (by decide +kernel)
theorem fk_X9_15 : LK RX9 15 TX9 1 := Or.inl fkm_X9_15
theorem fkm_X9_19 : Cond.fieldLink RX9 19 (TX9 2).1 (TX9 2).2.1 (TX9 2).2.2.1 ∈ gws := gw_in 216 (by decide +kernel) (by decide +kernel)
theorem fk_X9_19 : LK RX9 19 TX9 2 := Or.inl fkm_X9_19
theorem fkm_X9_22 : Cond.fieldLink RX9 22 (TX9 3).1 (TX9 3).2.1 (TX9 3).2.2.1 ∈ gws := gw_in 217 (by decide +kernel) (by decide +kernel)
theorem fk_X9_22 : LK RX9 22 TX9 3 := Or.inl fkm_X9_22
theorem fkm_X9_25 : Cond.fieldLink RX9 25 (TX9 4).1 (TX9 4).2.1 (TX9 4).2.2.1 ∈ gws := gw_in 218 (by decide +kernel) (by decide +kernel)
theorem fk_X9_25 : LK RX9 25 TX9 4 := Or.inl fkm_X9_25
theorem fkm_X9_28 : Cond.fieldLink RX9 28 (TX9 5).1 (TX9 5).2.1 (TX9 5).2.2.1 ∈ gws := gw_in 219 (by decide +kernel) (by decide +kernel)
theorem fk_X9_28 : LK RX9 28 TX9 5 := Or.inl fkm_X9_28
theorem fkm_X9_32 : Cond.fieldLink RX9 32 (TX9 6).1 (TX9 6).2.1 (TX9 6).2.2.1 ∈ gws := gw_in 220 (by decide +kernel) (by decide +kernel)
theorem fk_X9_32 : LK RX9 32 TX9 6 := Or.inl fkm_X9_32
theorem fkm_X9_35 : Cond.fieldLink RX9 35 (TX9 7).1 (TX9 7).2.1 (TX9 7).2.2.1 ∈ gws := gw_in 221 (by decide +kernel) (by decide +kernel)
theorem fk_X9_35 : LK RX9 35 TX9 7 := Or.inl fkm_X9_35
theorem fkm_X9_38 : Cond.fieldLink RX9 38 (TX9 8).1 (TX9 8).2.1 (TX9 8).2.2.1 ∈ gws := gw_in 222 (by decide +kernel) (by decide +kernel)
theorem fk_X9_38 : LK RX9 38 TX9 8 := Or.inl fkm_X9_38
theorem fkm_X9_41 : Cond.fieldLink RX9 41 (TX9 9).1 (TX9 9).2.1 (TX9 9).2.2.1 ∈ gws := gw_in 223 (by decide +kernel) (by decide +kernel)
theorem fk_X9_41 : LK RX9 41 TX9 9 := Or.inl fkm_X9_41
theorem fkm_X9_44 : Cond.fieldLink RX9 44 (TX9 10).1 (TX9 10).2.1 (TX9 10).2.2.1 ∈ gws := gw_in 224 (by decide +kernel) (by decide +kernel)
theorem fk_X9_44 : LK RX9 44 TX9 10 := Or.inl fkm_X9_44
theorem cw_J0_length_8abf5 : Cond.code yJ0_length_8abf5 cJ0_length_8abf5 1 (Option.some Jvm.ClassFile.FieldType.int) ∈ gws := gw_in 159 (by decide +kernel) (by decide +kernel)
theorem lk_X9_50 : LKm RX9 50 m_J0_length_8abf5 0 := ⟨(gw_in 156 (by decide +kernel) (by decide +kernel) : Cond.methodLink RX9 50 yJ0_length_8abf5 ∈ gws), iw_J0, cw_J0_length_8abf5, (show "java/lang/String" ≠ _ by decide), (show "java/lang/String" ≠ _ by decide), (by decide +kernel : (parseMethodDescriptor yJ0_length_8abf5.desc).map (fun d => d.parameters.length) = some 0)⟩
theorem cw_J0_charAt_5068e : Cond.code yJ0_charAt_5068e cJ0_charAt_5068e 2 (Option.some Jvm.ClassFile.FieldType.char) ∈ gws := gw_in 169 (by decide +kernel) (by decide +kernel)
theorem lk_X9_56 : LKm RX9 56 m_J0_charAt_5068e 1 := ⟨(gw_in 166 (by decide +kernel) (by decide +kernel) : Cond.methodLink RX9 56 yJ0_charAt_5068e ∈ gws), iw_J0, cw_J0_charAt_5068e, (show "java/lang/String" ≠ _ by decide), (show "java/lang/String" ≠ _ by decide), (by decide +kernel : (parseMethodDescriptor yJ0_charAt_5068e.desc).map (fun d => d.parameters.length) = some 1)⟩
theorem lk_X9_60 : LKm RX9 60 m_X6_at 2 := ⟨(gw_in 204 (by decide +kernel) (by decide +kernel) : Cond.methodLink RX9 60 yX6_at ∈ gws), iw_X6, cw_X6_at, (show "TurningSums$Rows" ≠ _ by decide), (show "TurningSums$Rows" ≠ _ by decide), (by decide +kernel : (parseMethodDescriptor yX6_at.desc).map (fun d => d.parameters.length) = some 2)⟩
theorem iw_X9 : Cond.initialized RX9 ∈ gws := gw_in 113 (by decide +kernel) (by decide +kernel)
theorem cw_X9_withLetter : Cond.code yX9_withLetter cX9_withLetter 3 (Option.some Jvm.ClassFile.FieldType.long) ∈ gws := gw_in 209 (by decide +kernel) (by decide +kernel)
theorem lk_X9_65 : LKm RX9 65 m_X9_withLetter 2 := ⟨(gw_in 207 (by decide +kernel) (by decide +kernel) : Cond.methodLink RX9 65 yX9_withLetter ∈ gws), iw_X9, cw_X9_withLetter, (show "TurningSums$Tape" ≠ _ by decide), (show "TurningSums$Tape" ≠ _ by decide), (by decide +kernel : (parseMethodDescriptor yX9_withLetter.desc).map (fun d => d.parameters.length) = some 2)⟩
theorem lk_X9_69 : LKm RX9 69 m_X6_put 3 := ⟨(gw_in 211 (by decide +kernel) (by decide +kernel) : Cond.methodLink RX9 69 yX6_put ∈ gws), iw_X6, cw_X6_put, (show "TurningSums$Rows" ≠ _ by decide), (show "TurningSums$Rows" ≠ _ by decide), (by decide +kernel : (parseMethodDescriptor yX6_put.desc).map (fun d => d.parameters.length) = some 3)⟩
theorem sw_X9_withLetter : Cond.static yX9_withLetter ∈ gws := gw_in 208 (by decide +kernel) (by decide +kernel)
theorem im_J0_charAt_5068e : Cond.instanceMethod yJ0_charAt_5068e ∈ gws := gw_in 167 (by decide +kernel) (by decide +kernel)
theorem se_J0_charAt_5068e : Cond.selects RJ0 yJ0_charAt_5068e yJ0_charAt_5068e ∈ gws := gw_in 168 (by decide +kernel) (by decide +kernel)
theorem im_J0_length_8abf5 : Cond.instanceMethod yJ0_length_8abf5 ∈ gws := gw_in 157 (by decide +kernel) (by decide +kernel)
theorem se_J0_length_8abf5 : Cond.selects RJ0 yJ0_length_8abf5 yJ0_length_8abf5 ∈ gws := gw_in 158 (by decide +kernel) (by decide +kernel)
theorem oi_X9_3 : Cond.methodLink RX9 3 Lib.objectInit ∈ gws := gw_in 154 (by decide +kernel) (by decide +kernel)
theorem oi_X5_3 : Cond.methodLink RX5 3 Lib.objectInit ∈ gws := gw_in 256 (by decide +kernel) (by decide +kernel)
theorem nk_X3_9 : NK RX3 9 RX9 11 := ⟨gw_in 149 (by decide +kernel) (by decide +kernel), gw_in 150 (by decide +kernel) (by decide +kernel), iw_X9⟩
theorem cw_X9_init : Cond.code yX9_init cX9_init 4 (Option.none : Option Jvm.ClassFile.FieldType) ∈ gws := gw_in 153 (by decide +kernel) (by decide +kernel)
theorem lk_X3_11 : LKm RX3 11 m_X9_init 0 := ⟨(gw_in 151 (by decide +kernel) (by decide +kernel) : Cond.methodLink RX3 11 yX9_init ∈ gws), iw_X9, cw_X9_init, (show "TurningSums$Tape" ≠ _ by decide), (show "TurningSums$Tape" ≠ _ by decide), (by decide +kernel : (parseMethodDescriptor yX9_init.desc).map (fun d => d.parameters.length) = some 0)⟩
theorem fkm_X3_12 : Cond.fieldLink RX3 12 (TX3 0).1 (TX3 0).2.1 (TX3 0).2.2.1 ∈ gws := gw_in 358 (by decide +kernel) (by decide +kernel)
theorem fk_X3_12 : LK RX3 12 TX3 0 := Or.inl fkm_X3_12
theorem nk_X3_18 : NK RX3 18 RX5 1 := ⟨gw_in 251 (by decide +kernel) (by decide +kernel), gw_in 252 (by decide +kernel) (by decide +kernel), iw_X5⟩
theorem cw_X5_init : Cond.code yX5_init cX5_init 1 (Option.none : Option Jvm.ClassFile.FieldType) ∈ gws := gw_in 255 (by decide +kernel) (by decide +kernel)
theorem lk_X3_20 : LKm RX3 20 m_X5_init 0 := ⟨(gw_in 253 (by decide +kernel) (by decide +kernel) : Cond.methodLink RX3 20 yX5_init ∈ gws), iw_X5, cw_X5_init, (show "TurningSums$Ring" ≠ _ by decide), (show "TurningSums$Ring" ≠ _ by decide), (by decide +kernel : (parseMethodDescriptor yX5_init.desc).map (fun d => d.parameters.length) = some 0)⟩
theorem fkm_X3_21 : Cond.fieldLink RX3 21 (TX3 1).1 (TX3 1).2.1 (TX3 1).2.2.1 ∈ gws := gw_in 359 (by decide +kernel) (by decide +kernel)
theorem fk_X3_21 : LK RX3 21 TX3 1 := Or.inl fkm_X3_21
theorem cl_X3_25 : Cond.classLink RX3 25 "[[J" ∈ gws := gw_in 261 (by decide +kernel) (by decide +kernel)
theorem fkm_X3_27 : Cond.fieldLink RX3 27 (TX3 2).1 (TX3 2).2.1 (TX3 2).2.2.1 ∈ gws := gw_in 360 (by decide +kernel) (by decide +kernel)
theorem fk_X3_27 : LK RX3 27 TX3 2 := Or.inl fkm_X3_27
theorem fkm_X3_30 : Cond.fieldLink RX3 30 (TX3 3).1 (TX3 3).2.1 (TX3 3).2.2.1 ∈ gws := gw_in 361 (by decide +kernel) (by decide +kernel)
theorem fk_X3_30 : LK RX3 30 TX3 3 := Or.inl fkm_X3_30
theorem fkm_X3_33 : Cond.fieldLink RX3 33 (TX3 4).1 (TX3 4).2.1 (TX3 4).2.2.1 ∈ gws := gw_in 362 (by decide +kernel) (by decide +kernel)
theorem fk_X3_33 : LK RX3 33 TX3 4 := Or.inl fkm_X3_33
theorem nk_X3_36 : NK RX3 36 RX0 11 := ⟨gw_in 263 (by decide +kernel) (by decide +kernel), gw_in 264 (by decide +kernel) (by decide +kernel), iw_X0⟩
theorem cw_X0_init : Cond.code yX0_init cX0_init 2 (Option.none : Option Jvm.ClassFile.FieldType) ∈ gws := gw_in 267 (by decide +kernel) (by decide +kernel)
theorem lk_X3_38 : LKm RX3 38 m_X0_init 0 := ⟨(gw_in 265 (by decide +kernel) (by decide +kernel) : Cond.methodLink RX3 38 yX0_init ∈ gws), iw_X0, cw_X0_init, (show "TurningSums$Book" ≠ _ by decide), (show "TurningSums$Book" ≠ _ by decide), (by decide +kernel : (parseMethodDescriptor yX0_init.desc).map (fun d => d.parameters.length) = some 0)⟩
theorem fkm_X3_39 : Cond.fieldLink RX3 39 (TX3 5).1 (TX3 5).2.1 (TX3 5).2.2.1 ∈ gws := gw_in 363 (by decide +kernel) (by decide +kernel)
theorem fk_X3_39 : LK RX3 39 TX3 5 := Or.inl fkm_X3_39
theorem nk_X3_43 : NK RX3 43 RX2 5 := ⟨gw_in 356 (by decide +kernel) (by decide +kernel), gw_in 274 (by decide +kernel) (by decide +kernel), iw_X2⟩
theorem lk_X3_45 : LKm RX3 45 m_X2_init 0 := ⟨(gw_in 357 (by decide +kernel) (by decide +kernel) : Cond.methodLink RX3 45 yX2_init ∈ gws), iw_X2, cw_X2_init, (show "TurningSums$Field" ≠ _ by decide), (show "TurningSums$Field" ≠ _ by decide), (by decide +kernel : (parseMethodDescriptor yX2_init.desc).map (fun d => d.parameters.length) = some 0)⟩
theorem fkm_X3_46 : Cond.fieldLink RX3 46 (TX3 6).1 (TX3 6).2.1 (TX3 6).2.2.1 ∈ gws := gw_in 364 (by decide +kernel) (by decide +kernel)
theorem fk_X3_46 : LK RX3 46 TX3 6 := Or.inl fkm_X3_46
theorem fkm_X3_50 : Cond.fieldLink RX3 50 (TX3 7).1 (TX3 7).2.1 (TX3 7).2.2.1 ∈ gws := gw_in 365 (by decide +kernel) (by decide +kernel)
theorem fk_X3_50 : LK RX3 50 TX3 7 := Or.inl fkm_X3_50
theorem fkm_X3_54 : Cond.fieldLink RX3 54 (TX3 8).1 (TX3 8).2.1 (TX3 8).2.2.1 ∈ gws := gw_in 366 (by decide +kernel) (by decide +kernel)
theorem fk_X3_54 : LK RX3 54 TX3 8 := Or.inl fkm_X3_54
theorem fkm_X3_58 : Cond.fieldLink RX3 58 (TX3 9).1 (TX3 9).2.1 (TX3 9).2.2.1 ∈ gws := gw_in 367 (by decide +kernel) (by decide +kernel)
theorem fk_X3_58 : LK RX3 58 TX3 9 := Or.inl fkm_X3_58
theorem fkm_X3_61 : Cond.fieldLink RX3 61 (TX3 10).1 (TX3 10).2.1 (TX3 10).2.2.1 ∈ gws := gw_in 368 (by decide +kernel) (by decide +kernel)
theorem fk_X3_61 : LK RX3 61 TX3 10 := Or.inl fkm_X3_61
theorem fkm_X3_64 : Cond.fieldLink RX3 64 (TX3 11).1 (TX3 11).2.1 (TX3 11).2.2.1 ∈ gws := gw_in 369 (by decide +kernel) (by decide +kernel)
theorem fk_X3_64 : LK RX3 64 TX3 11 := Or.inl fkm_X3_64
theorem fkm_X3_67 : Cond.fieldLink RX3 67 (TX3 12).1 (TX3 12).2.1 (TX3 12).2.2.1 ∈ gws := gw_in 370 (by decide +kernel) (by decide +kernel)
theorem fk_X3_67 : LK RX3 67 TX3 12 := Or.inl fkm_X3_67
theorem fkm_X3_70 : Cond.fieldLink RX3 70 (TX3 13).1 (TX3 13).2.1 (TX3 13).2.2.1 ∈ gws := gw_in 371 (by decide +kernel) (by decide +kernel)
theorem fk_X3_70 : LK RX3 70 TX3 13 := Or.inl fkm_X3_70
theorem im_X0_init : Cond.instanceMethod yX0_init ∈ gws := gw_in 266 (by decide +kernel) (by decide +kernel)
theorem im_X5_init : Cond.instanceMethod yX5_init ∈ gws := gw_in 254 (by decide +kernel) (by decide +kernel)
theorem im_X9_init : Cond.instanceMethod yX9_init ∈ gws := gw_in 152 (by decide +kernel) (by decide +kernel)
theorem oi_X3_3 : Cond.methodLink RX3 3 Lib.objectInit ∈ gws := gw_in 148 (by decide +kernel) (by decide +kernel)
theorem lk_X9_75 : LKm RX9 75 m_X6_mark 3 := ⟨(gw_in 499 (by decide +kernel) (by decide +kernel) : Cond.methodLink RX9 75 yX6_mark ∈ gws), iw_X6, cw_X6_mark, (show "TurningSums$Rows" ≠ _ by decide), (show "TurningSums$Rows" ≠ _ by decide), (by decide +kernel : (parseMethodDescriptor yX6_mark.desc).map (fun d => d.parameters.length) = some 3)⟩
theorem cw_X9_keptNumber : Cond.code yX9_keptNumber cX9_keptNumber 4 (Option.some Jvm.ClassFile.FieldType.int) ∈ gws := gw_in 542 (by decide +kernel) (by decide +kernel)
theorem lk_X9_115 : LKm RX9 115 m_X9_keptNumber 1 := ⟨(gw_in 539 (by decide +kernel) (by decide +kernel) : Cond.methodLink RX9 115 yX9_keptNumber ∈ gws), iw_X9, cw_X9_keptNumber, (show "TurningSums$Tape" ≠ _ by decide), (show "TurningSums$Tape" ≠ _ by decide), (by decide +kernel : (parseMethodDescriptor yX9_keptNumber.desc).map (fun d => d.parameters.length) = some 1)⟩
theorem cw_X9_keepToken : Cond.code yX9_keepToken cX9_keepToken 5 (Option.none : Option Jvm.ClassFile.FieldType) ∈ gws := gw_in 546 (by decide +kernel) (by decide +kernel)
theorem lk_X9_108 : LKm RX9 108 m_X9_keepToken 3 := ⟨(gw_in 543 (by decide +kernel) (by decide +kernel) : Cond.methodLink RX9 108 yX9_keepToken ∈ gws), iw_X9, cw_X9_keepToken, (show "TurningSums$Tape" ≠ _ by decide), (show "TurningSums$Tape" ≠ _ by decide), (by decide +kernel : (parseMethodDescriptor yX9_keepToken.desc).map (fun d => d.parameters.length) = some 3)⟩
theorem im_X9_keepToken : Cond.instanceMethod yX9_keepToken ∈ gws := gw_in 545 (by decide +kernel) (by decide +kernel)
theorem se_X9_keepToken : Cond.selects RX9 yX9_keepToken yX9_keepToken ∈ gws := gw_in 3 (by decide +kernel) (by decide +kernel)
theorem im_X9_keptNumber : Cond.instanceMethod yX9_keptNumber ∈ gws := gw_in 541 (by decide +kernel) (by decide +kernel)
theorem se_X9_keptNumber : Cond.selects RX9 yX9_keptNumber yX9_keptNumber ∈ gws := gw_in 2 (by decide +kernel) (by decide +kernel)
theorem lk_X9_85 : LKm RX9 85 m_X6_cell 2 := ⟨(gw_in 529 (by decide +kernel) (by decide +kernel) : Cond.methodLink RX9 85 yX6_cell ∈ gws), iw_X6, cw_X6_cell, (show "TurningSums$Rows" ≠ _ by decide), (show "TurningSums$Rows" ≠ _ by decide), (by decide +kernel : (parseMethodDescriptor yX6_cell.desc).map (fun d => d.parameters.length) = some 2)⟩
theorem cw_X9_isLetter : Cond.code yX9_isLetter cX9_isLetter 1 (Option.some Jvm.ClassFile.FieldType.boolean) ∈ gws := gw_in 534 (by decide +kernel) (by decide +kernel)
theorem lk_X9_89 : LKm RX9 89 m_X9_isLetter 1 := ⟨(gw_in 532 (by decide +kernel) (by decide +kernel) : Cond.methodLink RX9 89 yX9_isLetter ∈ gws), iw_X9, cw_X9_isLetter, (show "TurningSums$Tape" ≠ _ by decide), (show "TurningSums$Tape" ≠ _ by decide), (by decide +kernel : (parseMethodDescriptor yX9_isLetter.desc).map (fun d => d.parameters.length) = some 1)⟩
theorem sw_X9_isLetter : Cond.static yX9_isLetter ∈ gws := gw_in 533 (by decide +kernel) (by decide +kernel)
theorem cw_X9_isDigit : Cond.code yX9_isDigit cX9_isDigit 1 (Option.some Jvm.ClassFile.FieldType.boolean) ∈ gws := gw_in 549 (by decide +kernel) (by decide +kernel)
theorem lk_X9_97 : LKm RX9 97 m_X9_isDigit 1 := ⟨(gw_in 547 (by decide +kernel) (by decide +kernel) : Cond.methodLink RX9 97 yX9_isDigit ∈ gws), iw_X9, cw_X9_isDigit, (show "TurningSums$Tape" ≠ _ by decide), (show "TurningSums$Tape" ≠ _ by decide), (by decide +kernel : (parseMethodDescriptor yX9_isDigit.desc).map (fun d => d.parameters.length) = some 1)⟩
theorem sw_X9_isDigit : Cond.static yX9_isDigit ∈ gws := gw_in 548 (by decide +kernel) (by decide +kernel)
theorem cw_J1_canEncode_9a6ad : Cond.code yJ1_canEncode_9a6ad cJ1_canEncode_9a6ad 1 (Option.some Jvm.ClassFile.FieldType.boolean) ∈ gws := gw_in 569 (by decide +kernel) (by decide +kernel)
theorem lk_J1_88 : LKm RJ1 88 m_J1_canEncode_9a6ad 1 := ⟨(gw_in 567 (by decide +kernel) (by decide +kernel) : Cond.methodLink RJ1 88 yJ1_canEncode_9a6ad ∈ gws), iw_J1, cw_J1_canEncode_9a6ad, (show "java/lang/StringLatin1" ≠ _ by decide), (show "java/lang/StringLatin1" ≠ _ by decide), (by decide +kernel : (parseMethodDescriptor yJ1_canEncode_9a6ad.desc).map (fun d => d.parameters.length) = some 1)⟩
theorem cw_J9_max_7cf53 : Cond.code yJ9_max_7cf53 cJ9_max_7cf53 2 (Option.some Jvm.ClassFile.FieldType.int) ∈ gws := gw_in 572 (by decide +kernel) (by decide +kernel)
theorem lk_J1_92 : LKm RJ1 92 m_J9_max_7cf53 2 := ⟨(gw_in 570 (by decide +kernel) (by decide +kernel) : Cond.methodLink RJ1 92 yJ9_max_7cf53 ∈ gws), iw_J9, cw_J9_max_7cf53, (show "java/lang/Math" ≠ _ by decide), (show "java/lang/Math" ≠ _ by decide), (by decide +kernel : (parseMethodDescriptor yJ9_max_7cf53.desc).map (fun d => d.parameters.length) = some 2)⟩
theorem cw_J9_min_7cf53 : Cond.code yJ9_min_7cf53 cJ9_min_7cf53 2 (Option.some Jvm.ClassFile.FieldType.int) ∈ gws := gw_in 528 (by decide +kernel) (by decide +kernel)
theorem lk_J1_38 : LKm RJ1 38 m_J9_min_7cf53 2 := ⟨(gw_in 573 (by decide +kernel) (by decide +kernel) : Cond.methodLink RJ1 38 yJ9_min_7cf53 ∈ gws), iw_J9, cw_J9_min_7cf53, (show "java/lang/Math" ≠ _ by decide), (show "java/lang/Math" ≠ _ by decide), (by decide +kernel : (parseMethodDescriptor yJ9_min_7cf53.desc).map (fun d => d.parameters.length) = some 2)⟩
theorem cw_J1_indexOfChar_4cfef : Cond.code yJ1_indexOfChar_4cfef cJ1_indexOfChar_4cfef 6 (Option.some Jvm.ClassFile.FieldType.int) ∈ gws := gw_in 576 (by decide +kernel) (by decide +kernel)
theorem lk_J1_95 : LKm RJ1 95 m_J1_indexOfChar_4cfef 4 := ⟨(gw_in 574 (by decide +kernel) (by decide +kernel) : Cond.methodLink RJ1 95 yJ1_indexOfChar_4cfef ∈ gws), iw_J1, cw_J1_indexOfChar_4cfef, (show "java/lang/StringLatin1" ≠ _ by decide), (show "java/lang/StringLatin1" ≠ _ by decide), (by decide +kernel : (parseMethodDescriptor yJ1_indexOfChar_4cfef.desc).map (fun d => d.parameters.length) = some 4)⟩
theorem sw_J1_indexOfChar_4cfef : Cond.static yJ1_indexOfChar_4cfef ∈ gws := gw_in 575 (by decide +kernel) (by decide +kernel)
theorem sw_J9_min_7cf53 : Cond.static yJ9_min_7cf53 ∈ gws := gw_in 527 (by decide +kernel) (by decide +kernel)
theorem sw_J9_max_7cf53 : Cond.static yJ9_max_7cf53 ∈ gws := gw_in 571 (by decide +kernel) (by decide +kernel)
theorem sw_J1_canEncode_9a6ad : Cond.static yJ1_canEncode_9a6ad ∈ gws := gw_in 568 (by decide +kernel) (by decide +kernel)
theorem lk_J0_505 : LKm RJ0 505 m_J0_length_8abf5 0 := ⟨(gw_in 563 (by decide +kernel) (by decide +kernel) : Cond.methodLink RJ0 505 yJ0_length_8abf5 ∈ gws), iw_J0, cw_J0_length_8abf5, (show "java/lang/String" ≠ _ by decide), (show "java/lang/String" ≠ _ by decide), (by decide +kernel : (parseMethodDescriptor yJ0_length_8abf5.desc).map (fun d => d.parameters.length) = some 0)⟩
theorem cw_J1_indexOf_4cfef : Cond.code yJ1_indexOf_4cfef cJ1_indexOf_4cfef 4 (Option.some Jvm.ClassFile.FieldType.int) ∈ gws := gw_in 566 (by decide +kernel) (by decide +kernel)
theorem lk_J0_637 : LKm RJ0 637 m_J1_indexOf_4cfef 4 := ⟨(gw_in 564 (by decide +kernel) (by decide +kernel) : Cond.methodLink RJ0 637 yJ1_indexOf_4cfef ∈ gws), iw_J1, cw_J1_indexOf_4cfef, (show "java/lang/StringLatin1" ≠ _ by decide), (show "java/lang/StringLatin1" ≠ _ by decide), (by decide +kernel : (parseMethodDescriptor yJ1_indexOf_4cfef.desc).map (fun d => d.parameters.length) = some 4)⟩
theorem sw_J1_indexOf_4cfef : Cond.static yJ1_indexOf_4cfef ∈ gws := gw_in 565 (by decide +kernel) (by decide +kernel)
theorem cw_J0_indexOf_7cf53 : Cond.code yJ0_indexOf_7cf53 cJ0_indexOf_7cf53 3 (Option.some Jvm.ClassFile.FieldType.int) ∈ gws := gw_in 562 (by decide +kernel) (by decide +kernel)
theorem lk_J0_633 : LKm RJ0 633 m_J0_indexOf_7cf53 2 := ⟨(gw_in 559 (by decide +kernel) (by decide +kernel) : Cond.methodLink RJ0 633 yJ0_indexOf_7cf53 ∈ gws), iw_J0, cw_J0_indexOf_7cf53, (show "java/lang/String" ≠ _ by decide), (show "java/lang/String" ≠ _ by decide), (by decide +kernel : (parseMethodDescriptor yJ0_indexOf_7cf53.desc).map (fun d => d.parameters.length) = some 2)⟩
theorem im_J0_indexOf_7cf53 : Cond.instanceMethod yJ0_indexOf_7cf53 ∈ gws := gw_in 560 (by decide +kernel) (by decide +kernel)
theorem se_J0_indexOf_7cf53 : Cond.selects RJ0 yJ0_indexOf_7cf53 yJ0_indexOf_7cf53 ∈ gws := gw_in 561 (by decide +kernel) (by decide +kernel)
theorem lk_X9_79 : LKm RX9 79 m_J9_min_7cf53 2 := ⟨(gw_in 526 (by decide +kernel) (by decide +kernel) : Cond.methodLink RX9 79 yJ9_min_7cf53 ∈ gws), iw_J9, cw_J9_min_7cf53, (show "java/lang/Math" ≠ _ by decide), (show "java/lang/Math" ≠ _ by decide), (by decide +kernel : (parseMethodDescriptor yJ9_min_7cf53.desc).map (fun d => d.parameters.length) = some 2)⟩
theorem cw_X9_step : Cond.code yX9_step cX9_step 2 (Option.none : Option Jvm.ClassFile.FieldType) ∈ gws := gw_in 615 (by decide +kernel) (by decide +kernel)
theorem lk_X9_112 : LKm RX9 112 m_X9_step 0 := ⟨(gw_in 612 (by decide +kernel) (by decide +kernel) : Cond.methodLink RX9 112 yX9_step ∈ gws), iw_X9, cw_X9_step, (show "TurningSums$Tape" ≠ _ by decide), (show "TurningSums$Tape" ≠ _ by decide), (by decide +kernel : (parseMethodDescriptor yX9_step.desc).map (fun d => d.parameters.length) = some 0)⟩
theorem im_X9_step : Cond.instanceMethod yX9_step ∈ gws := gw_in 613 (by decide +kernel) (by decide +kernel)
theorem se_X9_step : Cond.selects RX9 yX9_step yX9_step ∈ gws := gw_in 614 (by decide +kernel) (by decide +kernel)
theorem cw_J0_indexOf_0f7a4 : Cond.code yJ0_indexOf_0f7a4 cJ0_indexOf_0f7a4 2 (Option.some Jvm.ClassFile.FieldType.int) ∈ gws := gw_in 558 (by decide +kernel) (by decide +kernel)
theorem lk_X9_105 : LKm RX9 105 m_J0_indexOf_0f7a4 1 := ⟨(gw_in 555 (by decide +kernel) (by decide +kernel) : Cond.methodLink RX9 105 yJ0_indexOf_0f7a4 ∈ gws), iw_J0, cw_J0_indexOf_0f7a4, (show "java/lang/String" ≠ _ by decide), (show "java/lang/String" ≠ _ by decide), (by decide +kernel : (parseMethodDescriptor yJ0_indexOf_0f7a4.desc).map (fun d => d.parameters.length) = some 1)⟩
theorem im_J0_indexOf_0f7a4 : Cond.instanceMethod yJ0_indexOf_0f7a4 ∈ gws := gw_in 556 (by decide +kernel) (by decide +kernel)
theorem se_J0_indexOf_0f7a4 : Cond.selects RJ0 yJ0_indexOf_0f7a4 yJ0_indexOf_0f7a4 ∈ gws := gw_in 557 (by decide +kernel) (by decide +kernel)
theorem cw_X9_splitWhole : Cond.code yX9_splitWhole cX9_splitWhole 4 (Option.some Jvm.ClassFile.FieldType.int) ∈ gws := gw_in 553 (by decide +kernel) (by decide +kernel)
theorem lk_X9_100 : LKm RX9 100 m_X9_splitWhole 1 := ⟨(gw_in 550 (by decide +kernel) (by decide +kernel) : Cond.methodLink RX9 100 yX9_splitWhole ∈ gws), iw_X9, cw_X9_splitWhole, (show "TurningSums$Tape" ≠ _ by decide), (show "TurningSums$Tape" ≠ _ by decide), (by decide +kernel : (parseMethodDescriptor yX9_splitWhole.desc).map (fun d => d.parameters.length) = some 1)⟩
theorem im_X9_splitWhole : Cond.instanceMethod yX9_splitWhole ∈ gws := gw_in 552 (by decide +kernel) (by decide +kernel)
theorem se_X9_splitWhole : Cond.selects RX9 yX9_splitWhole yX9_splitWhole ∈ gws := gw_in 4 (by decide +kernel) (by decide +kernel)
theorem cw_X9_splitWord : Cond.code yX9_splitWord cX9_splitWord 6 (Option.some Jvm.ClassFile.FieldType.int) ∈ gws := gw_in 538 (by decide +kernel) (by decide +kernel)
theorem lk_X9_93 : LKm RX9 93 m_X9_splitWord 1 := ⟨(gw_in 535 (by decide +kernel) (by decide +kernel) : Cond.methodLink RX9 93 yX9_splitWord ∈ gws), iw_X9, cw_X9_splitWord, (show "TurningSums$Tape" ≠ _ by decide), (show "TurningSums$Tape" ≠ _ by decide), (by decide +kernel : (parseMethodDescriptor yX9_splitWord.desc).map (fun d => d.parameters.length) = some 1)⟩
theorem im_X9_splitWord : Cond.instanceMethod yX9_splitWord ∈ gws := gw_in 537 (by decide +kernel) (by decide +kernel)
theorem se_X9_splitWord : Cond.selects RX9 yX9_splitWord yX9_splitWord ∈ gws := gw_in 1 (by decide +kernel) (by decide +kernel)
theorem cw_X9_atName : Cond.code yX9_atName cX9_atName 1 (Option.some Jvm.ClassFile.FieldType.boolean) ∈ gws := gw_in 644 (by decide +kernel) (by decide +kernel)
theorem lk_X3_124 : LKm RX3 124 m_X9_atName 0 := ⟨(gw_in 641 (by decide +kernel) (by decide +kernel) : Cond.methodLink RX3 124 yX9_atName ∈ gws), iw_X9, cw_X9_atName, (show "TurningSums$Tape" ≠ _ by decide), (show "TurningSums$Tape" ≠ _ by decide), (by decide +kernel : (parseMethodDescriptor yX9_atName.desc).map (fun d => d.parameters.length) = some 0)⟩
theorem cw_X9_nameNow : Cond.code yX9_nameNow cX9_nameNow 1 (Option.some Jvm.ClassFile.FieldType.long) ∈ gws := gw_in 648 (by decide +kernel) (by decide +kernel)
theorem lk_X3_127 : LKm RX3 127 m_X9_nameNow 0 := ⟨(gw_in 645 (by decide +kernel) (by decide +kernel) : Cond.methodLink RX3 127 yX9_nameNow ∈ gws), iw_X9, cw_X9_nameNow, (show "TurningSums$Tape" ≠ _ by decide), (show "TurningSums$Tape" ≠ _ by decide), (by decide +kernel : (parseMethodDescriptor yX9_nameNow.desc).map (fun d => d.parameters.length) = some 0)⟩
theorem cw_X0_knows : Cond.code yX0_knows cX0_knows 3 (Option.some Jvm.ClassFile.FieldType.boolean) ∈ gws := gw_in 652 (by decide +kernel) (by decide +kernel)
theorem lk_X3_131 : LKm RX3 131 m_X0_knows 1 := ⟨(gw_in 649 (by decide +kernel) (by decide +kernel) : Cond.methodLink RX3 131 yX0_knows ∈ gws), iw_X0, cw_X0_knows, (show "TurningSums$Book" ≠ _ by decide), (show "TurningSums$Book" ≠ _ by decide), (by decide +kernel : (parseMethodDescriptor yX0_knows.desc).map (fun d => d.parameters.length) = some 1)⟩
theorem cw_X9_placeNow : Cond.code yX9_placeNow cX9_placeNow 1 (Option.some Jvm.ClassFile.FieldType.int) ∈ gws := gw_in 660 (by decide +kernel) (by decide +kernel)
theorem lk_X3_95 : LKm RX3 95 m_X9_placeNow 0 := ⟨(gw_in 657 (by decide +kernel) (by decide +kernel) : Cond.methodLink RX3 95 yX9_placeNow ∈ gws), iw_X9, cw_X9_placeNow, (show "TurningSums$Tape" ≠ _ by decide), (show "TurningSums$Tape" ≠ _ by decide), (by decide +kernel : (parseMethodDescriptor yX9_placeNow.desc).map (fun d => d.parameters.length) = some 0)⟩
theorem lk_X3_92 : LKm RX3 92 m_X9_step 0 := ⟨(gw_in 636 (by decide +kernel) (by decide +kernel) : Cond.methodLink RX3 92 yX9_step ∈ gws), iw_X9, cw_X9_step, (show "TurningSums$Tape" ≠ _ by decide), (show "TurningSums$Tape" ≠ _ by decide), (by decide +kernel : (parseMethodDescriptor yX9_step.desc).map (fun d => d.parameters.length) = some 0)⟩
theorem im_X9_placeNow : Cond.instanceMethod yX9_placeNow ∈ gws := gw_in 658 (by decide +kernel) (by decide +kernel)
theorem se_X9_placeNow : Cond.selects RX9 yX9_placeNow yX9_placeNow ∈ gws := gw_in 659 (by decide +kernel) (by decide +kernel)
theorem im_X9_nameNow : Cond.instanceMethod yX9_nameNow ∈ gws := gw_in 646 (by decide +kernel) (by decide +kernel)
theorem se_X9_nameNow : Cond.selects RX9 yX9_nameNow yX9_nameNow ∈ gws := gw_in 647 (by decide +kernel) (by decide +kernel)
theorem iw_X3 : Cond.initialized RX3 ∈ gws := gw_in 112 (by decide +kernel) (by decide +kernel)
theorem cw_X3_blame : Cond.code yX3_blame cX3_blame 2 (Option.some Jvm.ClassFile.FieldType.boolean) ∈ gws := gw_in 635 (by decide +kernel) (by decide +kernel)
theorem lk_X3_111 : LKm RX3 111 m_X3_blame 1 := ⟨(gw_in 632 (by decide +kernel) (by decide +kernel) : Cond.methodLink RX3 111 yX3_blame ∈ gws), iw_X3, cw_X3_blame, (show "TurningSums$Reader" ≠ _ by decide), (show "TurningSums$Reader" ≠ _ by decide), (by decide +kernel : (parseMethodDescriptor yX3_blame.desc).map (fun d => d.parameters.length) = some 1)⟩
theorem im_X3_blame : Cond.instanceMethod yX3_blame ∈ gws := gw_in 634 (by decide +kernel) (by decide +kernel)
theorem se_X3_blame : Cond.selects RX3 yX3_blame yX3_blame ∈ gws := gw_in 7 (by decide +kernel) (by decide +kernel)
theorem im_X0_knows : Cond.instanceMethod yX0_knows ∈ gws := gw_in 650 (by decide +kernel) (by decide +kernel)
theorem se_X0_knows : Cond.selects RX0 yX0_knows yX0_knows ∈ gws := gw_in 651 (by decide +kernel) (by decide +kernel)
theorem im_X9_atName : Cond.instanceMethod yX9_atName ∈ gws := gw_in 642 (by decide +kernel) (by decide +kernel)
theorem se_X9_atName : Cond.selects RX9 yX9_atName yX9_atName ∈ gws := gw_in 643 (by decide +kernel) (by decide +kernel)
theorem cw_X9_atWhole : Cond.code yX9_atWhole cX9_atWhole 1 (Option.some Jvm.ClassFile.FieldType.boolean) ∈ gws := gw_in 675 (by decide +kernel) (by decide +kernel)
theorem lk_X3_118 : LKm RX3 118 m_X9_atWhole 0 := ⟨(gw_in 672 (by decide +kernel) (by decide +kernel) : Cond.methodLink RX3 118 yX9_atWhole ∈ gws), iw_X9, cw_X9_atWhole, (show "TurningSums$Tape" ≠ _ by decide), (show "TurningSums$Tape" ≠ _ by decide), (by decide +kernel : (parseMethodDescriptor yX9_atWhole.desc).map (fun d => d.parameters.length) = some 0)⟩
theorem cw_X9_wholeNow : Cond.code yX9_wholeNow cX9_wholeNow 1 (Option.some Jvm.ClassFile.FieldType.int) ∈ gws := gw_in 664 (by decide +kernel) (by decide +kernel)
theorem lk_X3_121 : LKm RX3 121 m_X9_wholeNow 0 := ⟨(gw_in 661 (by decide +kernel) (by decide +kernel) : Cond.methodLink RX3 121 yX9_wholeNow ∈ gws), iw_X9, cw_X9_wholeNow, (show "TurningSums$Tape" ≠ _ by decide), (show "TurningSums$Tape" ≠ _ by decide), (by decide +kernel : (parseMethodDescriptor yX9_wholeNow.desc).map (fun d => d.parameters.length) = some 0)⟩
theorem im_X9_wholeNow : Cond.instanceMethod yX9_wholeNow ∈ gws := gw_in 662 (by decide +kernel) (by decide +kernel)
theorem se_X9_wholeNow : Cond.selects RX9 yX9_wholeNow yX9_wholeNow ∈ gws := gw_in 663 (by decide +kernel) (by decide +kernel)
theorem im_X9_atWhole : Cond.instanceMethod yX9_atWhole ∈ gws := gw_in 673 (by decide +kernel) (by decide +kernel)
theorem se_X9_atWhole : Cond.selects RX9 yX9_atWhole yX9_atWhole ∈ gws := gw_in 674 (by decide +kernel) (by decide +kernel)
theorem cw_X9_atWord : Cond.code yX9_atWord cX9_atWord 2 (Option.some Jvm.ClassFile.FieldType.boolean) ∈ gws := gw_in 623 (by decide +kernel) (by decide +kernel)
theorem lk_X3_98 : LKm RX3 98 m_X9_atWord 1 := ⟨(gw_in 620 (by decide +kernel) (by decide +kernel) : Cond.methodLink RX3 98 yX9_atWord ∈ gws), iw_X9, cw_X9_atWord, (show "TurningSums$Tape" ≠ _ by decide), (show "TurningSums$Tape" ≠ _ by decide), (by decide +kernel : (parseMethodDescriptor yX9_atWord.desc).map (fun d => d.parameters.length) = some 1)⟩
theorem im_X9_atWord : Cond.instanceMethod yX9_atWord ∈ gws := gw_in 621 (by decide +kernel) (by decide +kernel)
theorem se_X9_atWord : Cond.selects RX9 yX9_atWord yX9_atWord ∈ gws := gw_in 622 (by decide +kernel) (by decide +kernel)
theorem cw_X0_fieldsHeld : Cond.code yX0_fieldsHeld cX0_fieldsHeld 1 (Option.some Jvm.ClassFile.FieldType.int) ∈ gws := gw_in 631 (by decide +kernel) (by decide +kernel)
theorem lk_X3_88 : LKm RX3 88 m_X0_fieldsHeld 0 := ⟨(gw_in 628 (by decide +kernel) (by decide +kernel) : Cond.methodLink RX3 88 yX0_fieldsHeld ∈ gws), iw_X0, cw_X0_fieldsHeld, (show "TurningSums$Book" ≠ _ by decide), (show "TurningSums$Book" ≠ _ by decide), (by decide +kernel : (parseMethodDescriptor yX0_fieldsHeld.desc).map (fun d => d.parameters.length) = some 0)⟩
theorem cw_X3_takeNewName : Cond.code yX3_takeNewName cX3_takeNewName 1 (Option.some Jvm.ClassFile.FieldType.boolean) ∈ gws := gw_in 640 (by decide +kernel) (by decide +kernel)
theorem lk_X3_146 : LKm RX3 146 m_X3_takeNewName 0 := ⟨(gw_in 637 (by decide +kernel) (by decide +kernel) : Cond.methodLink RX3 146 yX3_takeNewName ∈ gws), iw_X3, cw_X3_takeNewName, (show "TurningSums$Reader" ≠ _ by decide), (show "TurningSums$Reader" ≠ _ by decide), (by decide +kernel : (parseMethodDescriptor yX3_takeNewName.desc).map (fun d => d.parameters.length) = some 0)⟩
theorem cw_X8_isOddPrime : Cond.code yX8_isOddPrime cX8_isOddPrime 2 (Option.some Jvm.ClassFile.FieldType.boolean) ∈ gws := gw_in 667 (by decide +kernel) (by decide +kernel)
theorem lk_X3_149 : LKm RX3 149 m_X8_isOddPrime 1 := ⟨(gw_in 665 (by decide +kernel) (by decide +kernel) : Cond.methodLink RX3 149 yX8_isOddPrime ∈ gws), iw_X8, cw_X8_isOddPrime, (show "TurningSums$Squares" ≠ _ by decide), (show "TurningSums$Squares" ≠ _ by decide), (by decide +kernel : (parseMethodDescriptor yX8_isOddPrime.desc).map (fun d => d.parameters.length) = some 1)⟩
theorem cw_X3_takeWhole : Cond.code yX3_takeWhole cX3_takeWhole 2 (Option.some Jvm.ClassFile.FieldType.boolean) ∈ gws := gw_in 671 (by decide +kernel) (by decide +kernel)
theorem lk_X3_154 : LKm RX3 154 m_X3_takeWhole 1 := ⟨(gw_in 668 (by decide +kernel) (by decide +kernel) : Cond.methodLink RX3 154 yX3_takeWhole ∈ gws), iw_X3, cw_X3_takeWhole, (show "TurningSums$Reader" ≠ _ by decide), (show "TurningSums$Reader" ≠ _ by decide), (by decide +kernel : (parseMethodDescriptor yX3_takeWhole.desc).map (fun d => d.parameters.length) = some 1)⟩
theorem cw_X3_takeWord : Cond.code yX3_takeWord cX3_takeWord 2 (Option.some Jvm.ClassFile.FieldType.boolean) ∈ gws := gw_in 679 (by decide +kernel) (by decide +kernel)
theorem lk_X3_135 : LKm RX3 135 m_X3_takeWord 1 := ⟨(gw_in 676 (by decide +kernel) (by decide +kernel) : Cond.methodLink RX3 135 yX3_takeWord ∈ gws), iw_X3, cw_X3_takeWord, (show "TurningSums$Reader" ≠ _ by decide), (show "TurningSums$Reader" ≠ _ by decide), (by decide +kernel : (parseMethodDescriptor yX3_takeWord.desc).map (fun d => d.parameters.length) = some 1)⟩
theorem cw_X3_isOrderFor : Cond.code yX3_isOrderFor cX3_isOrderFor 2 (Option.some Jvm.ClassFile.FieldType.boolean) ∈ gws := gw_in 682 (by decide +kernel) (by decide +kernel)
theorem lk_X3_158 : LKm RX3 158 m_X3_isOrderFor 2 := ⟨(gw_in 680 (by decide +kernel) (by decide +kernel) : Cond.methodLink RX3 158 yX3_isOrderFor ∈ gws), iw_X3, cw_X3_isOrderFor, (show "TurningSums$Reader" ≠ _ by decide), (show "TurningSums$Reader" ≠ _ by decide), (by decide +kernel : (parseMethodDescriptor yX3_isOrderFor.desc).map (fun d => d.parameters.length) = some 2)⟩
theorem cw_X0_tellField : Cond.code yX0_tellField cX0_tellField 5 (Option.none : Option Jvm.ClassFile.FieldType) ∈ gws := gw_in 686 (by decide +kernel) (by decide +kernel)
theorem lk_X3_162 : LKm RX3 162 m_X0_tellField 3 := ⟨(gw_in 683 (by decide +kernel) (by decide +kernel) : Cond.methodLink RX3 162 yX0_tellField ∈ gws), iw_X0, cw_X0_tellField, (show "TurningSums$Book" ≠ _ by decide), (show "TurningSums$Book" ≠ _ by decide), (by decide +kernel : (parseMethodDescriptor yX0_tellField.desc).map (fun d => d.parameters.length) = some 3)⟩
theorem im_X0_tellField : Cond.instanceMethod yX0_tellField ∈ gws := gw_in 684 (by decide +kernel) (by decide +kernel)
theorem se_X0_tellField : Cond.selects RX0 yX0_tellField yX0_tellField ∈ gws := gw_in 685 (by decide +kernel) (by decide +kernel)
theorem im_X3_takeWhole : Cond.instanceMethod yX3_takeWhole ∈ gws := gw_in 670 (by decide +kernel) (by decide +kernel)
theorem se_X3_takeWhole : Cond.selects RX3 yX3_takeWhole yX3_takeWhole ∈ gws := gw_in 10 (by decide +kernel) (by decide +kernel)
theorem sw_X3_isOrderFor : Cond.static yX3_isOrderFor ∈ gws := gw_in 681 (by decide +kernel) (by decide +kernel)
theorem im_X3_takeWord : Cond.instanceMethod yX3_takeWord ∈ gws := gw_in 678 (by decide +kernel) (by decide +kernel)
theorem se_X3_takeWord : Cond.selects RX3 yX3_takeWord yX3_takeWord ∈ gws := gw_in 11 (by decide +kernel) (by decide +kernel)
theorem sw_X8_isOddPrime : Cond.static yX8_isOddPrime ∈ gws := gw_in 666 (by decide +kernel) (by decide +kernel)
theorem im_X3_takeNewName : Cond.instanceMethod yX3_takeNewName ∈ gws := gw_in 639 (by decide +kernel) (by decide +kernel)
theorem se_X3_takeNewName : Cond.selects RX3 yX3_takeNewName yX3_takeNewName ∈ gws := gw_in 8 (by decide +kernel) (by decide +kernel)
theorem im_X0_fieldsHeld : Cond.instanceMethod yX0_fieldsHeld ∈ gws := gw_in 629 (by decide +kernel) (by decide +kernel)
theorem se_X0_fieldsHeld : Cond.selects RX0 yX0_fieldsHeld yX0_fieldsHeld ∈ gws := gw_in 630 (by decide +kernel) (by decide +kernel)
theorem cw_X0_find : Cond.code yX0_find cX0_find 5 (Option.some Jvm.ClassFile.FieldType.int) ∈ gws := gw_in 720 (by decide +kernel) (by decide +kernel)
theorem lk_X3_138 : LKm RX3 138 m_X0_find 2 := ⟨(gw_in 717 (by decide +kernel) (by decide +kernel) : Cond.methodLink RX3 138 yX0_find ∈ gws), iw_X0, cw_X0_find, (show "TurningSums$Book" ≠ _ by decide), (show "TurningSums$Book" ≠ _ by decide), (by decide +kernel : (parseMethodDescriptor yX0_find.desc).map (fun d => d.parameters.length) = some 2)⟩
theorem cw_X0_fieldAt : Cond.code yX0_fieldAt cX0_fieldAt 2 (Option.some (Jvm.ClassFile.FieldType.object "TurningSums$Field")) ∈ gws := gw_in 725 (by decide +kernel) (by decide +kernel)
theorem lk_X3_142 : LKm RX3 142 m_X0_fieldAt 1 := ⟨(gw_in 722 (by decide +kernel) (by decide +kernel) : Cond.methodLink RX3 142 yX0_fieldAt ∈ gws), iw_X0, cw_X0_fieldAt, (show "TurningSums$Book" ≠ _ by decide), (show "TurningSums$Book" ≠ _ by decide), (by decide +kernel : (parseMethodDescriptor yX0_fieldAt.desc).map (fun d => d.parameters.length) = some 1)⟩
theorem im_X0_fieldAt : Cond.instanceMethod yX0_fieldAt ∈ gws := gw_in 723 (by decide +kernel) (by decide +kernel)
theorem se_X0_fieldAt : Cond.selects RX0 yX0_fieldAt yX0_fieldAt ∈ gws := gw_in 724 (by decide +kernel) (by decide +kernel)
theorem im_X0_find : Cond.instanceMethod yX0_find ∈ gws := gw_in 718 (by decide +kernel) (by decide +kernel)
theorem se_X0_find : Cond.selects RX0 yX0_find yX0_find ∈ gws := gw_in 719 (by decide +kernel) (by decide +kernel)
theorem cw_X1_prime : Cond.code yX1_prime cX1_prime 1 (Option.some Jvm.ClassFile.FieldType.int) ∈ gws := gw_in 745 (by decide +kernel) (by decide +kernel)
theorem lk_X3_198 : LKm RX3 198 m_X1_prime 0 := ⟨(gw_in 742 (by decide +kernel) (by decide +kernel) : Cond.methodLink RX3 198 yX1_prime ∈ gws), iw_X1, cw_X1_prime, (show "TurningSums$Equation" ≠ _ by decide), (show "TurningSums$Equation" ≠ _ by decide), (by decide +kernel : (parseMethodDescriptor yX1_prime.desc).map (fun d => d.parameters.length) = some 0)⟩
theorem cw_X9_atWholeWithin : Cond.code yX9_atWholeWithin cX9_atWholeWithin 3 (Option.some Jvm.ClassFile.FieldType.boolean) ∈ gws := gw_in 749 (by decide +kernel) (by decide +kernel)
theorem lk_X3_185 : LKm RX3 185 m_X9_atWholeWithin 2 := ⟨(gw_in 746 (by decide +kernel) (by decide +kernel) : Cond.methodLink RX3 185 yX9_atWholeWithin ∈ gws), iw_X9, cw_X9_atWholeWithin, (show "TurningSums$Tape" ≠ _ by decide), (show "TurningSums$Tape" ≠ _ by decide), (by decide +kernel : (parseMethodDescriptor yX9_atWholeWithin.desc).map (fun d => d.parameters.length) = some 2)⟩
theorem cw_X1_append : Cond.code yX1_append cX1_append 3 (Option.none : Option Jvm.ClassFile.FieldType) ∈ gws := gw_in 757 (by decide +kernel) (by decide +kernel)
theorem lk_X3_202 : LKm RX3 202 m_X1_append 2 := ⟨(gw_in 754 (by decide +kernel) (by decide +kernel) : Cond.methodLink RX3 202 yX1_append ∈ gws), iw_X1, cw_X1_append, (show "TurningSums$Equation" ≠ _ by decide), (show "TurningSums$Equation" ≠ _ by decide), (by decide +kernel : (parseMethodDescriptor yX1_append.desc).map (fun d => d.parameters.length) = some 2)⟩
theorem im_X1_append : Cond.instanceMethod yX1_append ∈ gws := gw_in 755 (by decide +kernel) (by decide +kernel)
theorem se_X1_append : Cond.selects RX1 yX1_append yX1_append ∈ gws := gw_in 756 (by decide +kernel) (by decide +kernel)
theorem im_X9_atWholeWithin : Cond.instanceMethod yX9_atWholeWithin ∈ gws := gw_in 747 (by decide +kernel) (by decide +kernel)
theorem se_X9_atWholeWithin : Cond.selects RX9 yX9_atWholeWithin yX9_atWholeWithin ∈ gws := gw_in 748 (by decide +kernel) (by decide +kernel)
theorem cw_X1_isFull : Cond.code yX1_isFull cX1_isFull 1 (Option.some Jvm.ClassFile.FieldType.boolean) ∈ gws := gw_in 753 (by decide +kernel) (by decide +kernel)
theorem lk_X3_199 : LKm RX3 199 m_X1_isFull 0 := ⟨(gw_in 750 (by decide +kernel) (by decide +kernel) : Cond.methodLink RX3 199 yX1_isFull ∈ gws), iw_X1, cw_X1_isFull, (show "TurningSums$Equation" ≠ _ by decide), (show "TurningSums$Equation" ≠ _ by decide), (by decide +kernel : (parseMethodDescriptor yX1_isFull.desc).map (fun d => d.parameters.length) = some 0)⟩
theorem im_X1_isFull : Cond.instanceMethod yX1_isFull ∈ gws := gw_in 751 (by decide +kernel) (by decide +kernel)
theorem se_X1_isFull : Cond.selects RX1 yX1_isFull yX1_isFull ∈ gws := gw_in 752 (by decide +kernel) (by decide +kernel)
theorem im_X1_prime : Cond.instanceMethod yX1_prime ∈ gws := gw_in 743 (by decide +kernel) (by decide +kernel)
theorem se_X1_prime : Cond.selects RX1 yX1_prime yX1_prime ∈ gws := gw_in 744 (by decide +kernel) (by decide +kernel)
theorem cw_X3_readTerm : Cond.code yX3_readTerm cX3_readTerm 4 (Option.some Jvm.ClassFile.FieldType.boolean) ∈ gws := gw_in 741 (by decide +kernel) (by decide +kernel)
theorem lk_X3_195 : LKm RX3 195 m_X3_readTerm 1 := ⟨(gw_in 738 (by decide +kernel) (by decide +kernel) : Cond.methodLink RX3 195 yX3_readTerm ∈ gws), iw_X3, cw_X3_readTerm, (show "TurningSums$Reader" ≠ _ by decide), (show "TurningSums$Reader" ≠ _ by decide), (by decide +kernel : (parseMethodDescriptor yX3_readTerm.desc).map (fun d => d.parameters.length) = some 1)⟩
theorem cw_X9_atSign : Cond.code yX9_atSign cX9_atSign 2 (Option.some Jvm.ClassFile.FieldType.boolean) ∈ gws := gw_in 762 (by decide +kernel) (by decide +kernel)
theorem lk_X3_114 : LKm RX3 114 m_X9_atSign 1 := ⟨(gw_in 759 (by decide +kernel) (by decide +kernel) : Cond.methodLink RX3 114 yX9_atSign ∈ gws), iw_X9, cw_X9_atSign, (show "TurningSums$Tape" ≠ _ by decide), (show "TurningSums$Tape" ≠ _ by decide), (by decide +kernel : (parseMethodDescriptor yX9_atSign.desc).map (fun d => d.parameters.length) = some 1)⟩
theorem im_X9_atSign : Cond.instanceMethod yX9_atSign ∈ gws := gw_in 760 (by decide +kernel) (by decide +kernel)
theorem se_X9_atSign : Cond.selects RX9 yX9_atSign yX9_atSign ∈ gws := gw_in 761 (by decide +kernel) (by decide +kernel)
theorem im_X3_readTerm : Cond.instanceMethod yX3_readTerm ∈ gws := gw_in 740 (by decide +kernel) (by decide +kernel)
theorem se_X3_readTerm : Cond.selects RX3 yX3_readTerm yX3_readTerm ∈ gws := gw_in 17 (by decide +kernel) (by decide +kernel)
theorem cw_X0_nextEquation : Cond.code yX0_nextEquation cX0_nextEquation 1 (Option.some (Jvm.ClassFile.FieldType.object "TurningSums$Equation")) ∈ gws := gw_in 712 (by decide +kernel) (by decide +kernel)
theorem lk_X3_166 : LKm RX3 166 m_X0_nextEquation 0 := ⟨(gw_in 709 (by decide +kernel) (by decide +kernel) : Cond.methodLink RX3 166 yX0_nextEquation ∈ gws), iw_X0, cw_X0_nextEquation, (show "TurningSums$Book" ≠ _ by decide), (show "TurningSums$Book" ≠ _ by decide), (by decide +kernel : (parseMethodDescriptor yX0_nextEquation.desc).map (fun d => d.parameters.length) = some 0)⟩
theorem cw_X3_takeInField : Cond.code yX3_takeInField cX3_takeInField 2 (Option.some Jvm.ClassFile.FieldType.boolean) ∈ gws := gw_in 716 (by decide +kernel) (by decide +kernel)
theorem lk_X3_170 : LKm RX3 170 m_X3_takeInField 0 := ⟨(gw_in 713 (by decide +kernel) (by decide +kernel) : Cond.methodLink RX3 170 yX3_takeInField ∈ gws), iw_X3, cw_X3_takeInField, (show "TurningSums$Reader" ≠ _ by decide), (show "TurningSums$Reader" ≠ _ by decide), (by decide +kernel : (parseMethodDescriptor yX3_takeInField.desc).map (fun d => d.parameters.length) = some 0)⟩
theorem cw_X2_prime : Cond.code yX2_prime cX2_prime 1 (Option.some Jvm.ClassFile.FieldType.int) ∈ gws := gw_in 729 (by decide +kernel) (by decide +kernel)
theorem lk_X3_173 : LKm RX3 173 m_X2_prime 0 := ⟨(gw_in 726 (by decide +kernel) (by decide +kernel) : Cond.methodLink RX3 173 yX2_prime ∈ gws), iw_X2, cw_X2_prime, (show "TurningSums$Field" ≠ _ by decide), (show "TurningSums$Field" ≠ _ by decide), (by decide +kernel : (parseMethodDescriptor yX2_prime.desc).map (fun d => d.parameters.length) = some 0)⟩
theorem cw_X1_begin : Cond.code yX1_begin cX1_begin 2 (Option.none : Option Jvm.ClassFile.FieldType) ∈ gws := gw_in 733 (by decide +kernel) (by decide +kernel)
theorem lk_X3_176 : LKm RX3 176 m_X1_begin 1 := ⟨(gw_in 730 (by decide +kernel) (by decide +kernel) : Cond.methodLink RX3 176 yX1_begin ∈ gws), iw_X1, cw_X1_begin, (show "TurningSums$Equation" ≠ _ by decide), (show "TurningSums$Equation" ≠ _ by decide), (by decide +kernel : (parseMethodDescriptor yX1_begin.desc).map (fun d => d.parameters.length) = some 1)⟩
theorem cw_X3_readTerms : Cond.code yX3_readTerms cX3_readTerms 3 (Option.some Jvm.ClassFile.FieldType.boolean) ∈ gws := gw_in 737 (by decide +kernel) (by decide +kernel)
theorem lk_X3_181 : LKm RX3 181 m_X3_readTerms 1 := ⟨(gw_in 734 (by decide +kernel) (by decide +kernel) : Cond.methodLink RX3 181 yX3_readTerms ∈ gws), iw_X3, cw_X3_readTerms, (show "TurningSums$Reader" ≠ _ by decide), (show "TurningSums$Reader" ≠ _ by decide), (by decide +kernel : (parseMethodDescriptor yX3_readTerms.desc).map (fun d => d.parameters.length) = some 1)⟩
theorem cw_X1_close : Cond.code yX1_close cX1_close 2 (Option.none : Option Jvm.ClassFile.FieldType) ∈ gws := gw_in 766 (by decide +kernel) (by decide +kernel)
theorem lk_X3_188 : LKm RX3 188 m_X1_close 1 := ⟨(gw_in 763 (by decide +kernel) (by decide +kernel) : Cond.methodLink RX3 188 yX1_close ∈ gws), iw_X1, cw_X1_close, (show "TurningSums$Equation" ≠ _ by decide), (show "TurningSums$Equation" ≠ _ by decide), (by decide +kernel : (parseMethodDescriptor yX1_close.desc).map (fun d => d.parameters.length) = some 1)⟩
theorem cw_X0_tellEquation : Cond.code yX0_tellEquation cX0_tellEquation 3 (Option.none : Option Jvm.ClassFile.FieldType) ∈ gws := gw_in 770 (by decide +kernel) (by decide +kernel)
theorem lk_X3_191 : LKm RX3 191 m_X0_tellEquation 1 := ⟨(gw_in 767 (by decide +kernel) (by decide +kernel) : Cond.methodLink RX3 191 yX0_tellEquation ∈ gws), iw_X0, cw_X0_tellEquation, (show "TurningSums$Book" ≠ _ by decide), (show "TurningSums$Book" ≠ _ by decide), (by decide +kernel : (parseMethodDescriptor yX0_tellEquation.desc).map (fun d => d.parameters.length) = some 1)⟩
theorem im_X0_tellEquation : Cond.instanceMethod yX0_tellEquation ∈ gws := gw_in 768 (by decide +kernel) (by decide +kernel)
theorem se_X0_tellEquation : Cond.selects RX0 yX0_tellEquation yX0_tellEquation ∈ gws := gw_in 769 (by decide +kernel) (by decide +kernel)
theorem im_X1_close : Cond.instanceMethod yX1_close ∈ gws := gw_in 764 (by decide +kernel) (by decide +kernel)
theorem se_X1_close : Cond.selects RX1 yX1_close yX1_close ∈ gws := gw_in 765 (by decide +kernel) (by decide +kernel)
theorem im_X2_prime : Cond.instanceMethod yX2_prime ∈ gws := gw_in 727 (by decide +kernel) (by decide +kernel)
theorem se_X2_prime : Cond.selects RX2 yX2_prime yX2_prime ∈ gws := gw_in 728 (by decide +kernel) (by decide +kernel)
theorem im_X3_readTerms : Cond.instanceMethod yX3_readTerms ∈ gws := gw_in 736 (by decide +kernel) (by decide +kernel)
theorem se_X3_readTerms : Cond.selects RX3 yX3_readTerms yX3_readTerms ∈ gws := gw_in 16 (by decide +kernel) (by decide +kernel)
theorem im_X1_begin : Cond.instanceMethod yX1_begin ∈ gws := gw_in 731 (by decide +kernel) (by decide +kernel)
theorem se_X1_begin : Cond.selects RX1 yX1_begin yX1_begin ∈ gws := gw_in 732 (by decide +kernel) (by decide +kernel)
theorem im_X3_takeInField : Cond.instanceMethod yX3_takeInField ∈ gws := gw_in 715 (by decide +kernel) (by decide +kernel)
theorem se_X3_takeInField : Cond.selects RX3 yX3_takeInField yX3_takeInField ∈ gws := gw_in 15 (by decide +kernel) (by decide +kernel)
theorem im_X0_nextEquation : Cond.instanceMethod yX0_nextEquation ∈ gws := gw_in 710 (by decide +kernel) (by decide +kernel)
theorem se_X0_nextEquation : Cond.selects RX0 yX0_nextEquation yX0_nextEquation ∈ gws := gw_in 711 (by decide +kernel) (by decide +kernel)
theorem kj_X6_9 : Cond.constantLong RX6 9 (100000000 : Int64) ∈ gws := gw_in 886 (by decide +kernel) (by decide +kernel)
theorem kj_X6_11 : Cond.constantLong RX6 11 (-100000000 : Int64) ∈ gws := gw_in 887 (by decide +kernel) (by decide +kernel)
theorem cw_X0_letFieldAt : Cond.code yX0_letFieldAt cX0_letFieldAt 2 (Option.some Jvm.ClassFile.FieldType.int) ∈ gws := gw_in 804 (by decide +kernel) (by decide +kernel)
theorem lk_X3_271 : LKm RX3 271 m_X0_letFieldAt 1 := ⟨(gw_in 801 (by decide +kernel) (by decide +kernel) : Cond.methodLink RX3 271 yX0_letFieldAt ∈ gws), iw_X0, cw_X0_letFieldAt, (show "TurningSums$Book" ≠ _ by decide), (show "TurningSums$Book" ≠ _ by decide), (by decide +kernel : (parseMethodDescriptor yX0_letFieldAt.desc).map (fun d => d.parameters.length) = some 1)⟩
theorem cw_X0_letRowAt : Cond.code yX0_letRowAt cX0_letRowAt 2 (Option.some (Jvm.ClassFile.FieldType.array Jvm.ClassFile.FieldType.long)) ∈ gws := gw_in 808 (by decide +kernel) (by decide +kernel)
theorem lk_X3_275 : LKm RX3 275 m_X0_letRowAt 1 := ⟨(gw_in 805 (by decide +kernel) (by decide +kernel) : Cond.methodLink RX3 275 yX0_letRowAt ∈ gws), iw_X0, cw_X0_letRowAt, (show "TurningSums$Book" ≠ _ by decide), (show "TurningSums$Book" ≠ _ by decide), (by decide +kernel : (parseMethodDescriptor yX0_letRowAt.desc).map (fun d => d.parameters.length) = some 1)⟩
theorem lk_X3_225 : LKm RX3 225 m_X6_copy 2 := ⟨(gw_in 810 (by decide +kernel) (by decide +kernel) : Cond.methodLink RX3 225 yX6_copy ∈ gws), iw_X6, cw_X6_copy, (show "TurningSums$Rows" ≠ _ by decide), (show "TurningSums$Rows" ≠ _ by decide), (by decide +kernel : (parseMethodDescriptor yX6_copy.desc).map (fun d => d.parameters.length) = some 2)⟩
theorem im_X0_letRowAt : Cond.instanceMethod yX0_letRowAt ∈ gws := gw_in 806 (by decide +kernel) (by decide +kernel)
theorem se_X0_letRowAt : Cond.selects RX0 yX0_letRowAt yX0_letRowAt ∈ gws := gw_in 807 (by decide +kernel) (by decide +kernel)
theorem im_X0_letFieldAt : Cond.instanceMethod yX0_letFieldAt ∈ gws := gw_in 802 (by decide +kernel) (by decide +kernel)
theorem se_X0_letFieldAt : Cond.selects RX0 yX0_letFieldAt yX0_letFieldAt ∈ gws := gw_in 803 (by decide +kernel) (by decide +kernel)
theorem cw_X2_order : Cond.code yX2_order cX2_order 1 (Option.some Jvm.ClassFile.FieldType.int) ∈ gws := gw_in 816 (by decide +kernel) (by decide +kernel)
theorem lk_X3_242 : LKm RX3 242 m_X2_order 0 := ⟨(gw_in 813 (by decide +kernel) (by decide +kernel) : Cond.methodLink RX3 242 yX2_order ∈ gws), iw_X2, cw_X2_order, (show "TurningSums$Field" ≠ _ by decide), (show "TurningSums$Field" ≠ _ by decide), (by decide +kernel : (parseMethodDescriptor yX2_order.desc).map (fun d => d.parameters.length) = some 0)⟩
theorem cw_X3_takeSign : Cond.code yX3_takeSign cX3_takeSign 2 (Option.some Jvm.ClassFile.FieldType.boolean) ∈ gws := gw_in 855 (by decide +kernel) (by decide +kernel)
theorem lk_X3_279 : LKm RX3 279 m_X3_takeSign 1 := ⟨(gw_in 852 (by decide +kernel) (by decide +kernel) : Cond.methodLink RX3 279 yX3_takeSign ∈ gws), iw_X3, cw_X3_takeSign, (show "TurningSums$Reader" ≠ _ by decide), (show "TurningSums$Reader" ≠ _ by decide), (by decide +kernel : (parseMethodDescriptor yX3_takeSign.desc).map (fun d => d.parameters.length) = some 1)⟩
theorem im_X3_takeSign : Cond.instanceMethod yX3_takeSign ∈ gws := gw_in 854 (by decide +kernel) (by decide +kernel)
theorem se_X3_takeSign : Cond.selects RX3 yX3_takeSign yX3_takeSign ∈ gws := gw_in 24 (by decide +kernel) (by decide +kernel)
theorem im_X2_order : Cond.instanceMethod yX2_order ∈ gws := gw_in 814 (by decide +kernel) (by decide +kernel)
theorem se_X2_order : Cond.selects RX2 yX2_order yX2_order ∈ gws := gw_in 815 (by decide +kernel) (by decide +kernel)
theorem lk_X3_212 : LKm RX3 212 m_X6_rowAt 2 := ⟨(gw_in 783 (by decide +kernel) (by decide +kernel) : Cond.methodLink RX3 212 yX6_rowAt ∈ gws), iw_X6, cw_X6_rowAt, (show "TurningSums$Rows" ≠ _ by decide), (show "TurningSums$Rows" ≠ _ by decide), (by decide +kernel : (parseMethodDescriptor yX6_rowAt.desc).map (fun d => d.parameters.length) = some 2)⟩
theorem cw_X3_readProduct : Cond.code yX3_readProduct cX3_readProduct 5 (Option.some Jvm.ClassFile.FieldType.boolean) ∈ gws := gw_in 789 (by decide +kernel) (by decide +kernel)
theorem lk_X3_222 (d : Nat) : LKm RX3 222 (m_X3_readProduct d) 1 := ⟨(gw_in 786 (by decide +kernel) (by decide +kernel) : Cond.methodLink RX3 222 yX3_readProduct ∈ gws), iw_X3, cw_X3_readProduct, (show "TurningSums$Reader" ≠ _ by decide), (show "TurningSums$Reader" ≠ _ by decide), (by decide +kernel : (parseMethodDescriptor yX3_readProduct.desc).map (fun d => d.parameters.length) = some 1)⟩
theorem cw_X6_addTimes : Cond.code yX6_addTimes cX6_addTimes 5 (Option.none : Option Jvm.ClassFile.FieldType) ∈ gws := gw_in 895 (by decide +kernel) (by decide +kernel)
theorem lk_X3_231 : LKm RX3 231 m_X6_addTimes 3 := ⟨(gw_in 893 (by decide +kernel) (by decide +kernel) : Cond.methodLink RX3 231 yX6_addTimes ∈ gws), iw_X6, cw_X6_addTimes, (show "TurningSums$Rows" ≠ _ by decide), (show "TurningSums$Rows" ≠ _ by decide), (by decide +kernel : (parseMethodDescriptor yX6_addTimes.desc).map (fun d => d.parameters.length) = some 3)⟩
theorem cw_X6_isHuge : Cond.code yX6_isHuge cX6_isHuge 2 (Option.some Jvm.ClassFile.FieldType.boolean) ∈ gws := gw_in 885 (by decide +kernel) (by decide +kernel)
theorem lk_X3_235 : LKm RX3 235 m_X6_isHuge 1 := ⟨(gw_in 883 (by decide +kernel) (by decide +kernel) : Cond.methodLink RX3 235 yX6_isHuge ∈ gws), iw_X6, cw_X6_isHuge, (show "TurningSums$Rows" ≠ _ by decide), (show "TurningSums$Rows" ≠ _ by decide), (by decide +kernel : (parseMethodDescriptor yX6_isHuge.desc).map (fun d => d.parameters.length) = some 1)⟩
theorem sw_X6_isHuge : Cond.static yX6_isHuge ∈ gws := gw_in 884 (by decide +kernel) (by decide +kernel)
theorem sw_X6_addTimes : Cond.static yX6_addTimes ∈ gws := gw_in 894 (by decide +kernel) (by decide +kernel)
theorem kj_X3_229 : Cond.constantLong RX3 229 (-1 : Int64) ∈ gws := gw_in 892 (by decide +kernel) (by decide +kernel)
theorem im_X3_readProduct : Cond.instanceMethod yX3_readProduct ∈ gws := gw_in 788 (by decide +kernel) (by decide +kernel)
theorem se_X3_readProduct : Cond.selects RX3 yX3_readProduct yX3_readProduct ∈ gws := gw_in 20 (by decide +kernel) (by decide +kernel)
theorem cw_X3_readAtom : Cond.code yX3_readAtom cX3_readAtom 4 (Option.some Jvm.ClassFile.FieldType.boolean) ∈ gws := gw_in 793 (by decide +kernel) (by decide +kernel)
theorem lk_X3_239 (d : Nat) : LKm RX3 239 (m_X3_readAtom d) 1 := ⟨(gw_in 790 (by decide +kernel) (by decide +kernel) : Cond.methodLink RX3 239 yX3_readAtom ∈ gws), iw_X3, cw_X3_readAtom, (show "TurningSums$Reader" ≠ _ by decide), (show "TurningSums$Reader" ≠ _ by decide), (by decide +kernel : (parseMethodDescriptor yX3_readAtom.desc).map (fun d => d.parameters.length) = some 1)⟩
theorem lk_X3_245 : LKm RX3 245 m_X5_multiply 4 := ⟨(gw_in 888 (by decide +kernel) (by decide +kernel) : Cond.methodLink RX3 245 yX5_multiply ∈ gws), iw_X5, cw_X5_multiply, (show "TurningSums$Ring" ≠ _ by decide), (show "TurningSums$Ring" ≠ _ by decide), (by decide +kernel : (parseMethodDescriptor yX5_multiply.desc).map (fun d => d.parameters.length) = some 4)⟩
theorem im_X3_readAtom : Cond.instanceMethod yX3_readAtom ∈ gws := gw_in 792 (by decide +kernel) (by decide +kernel)
theorem se_X3_readAtom : Cond.selects RX3 yX3_readAtom yX3_readAtom ∈ gws := gw_in 21 (by decide +kernel) (by decide +kernel)
theorem cw_X3_readDeeper : Cond.code yX3_readDeeper cX3_readDeeper 7 (Option.some Jvm.ClassFile.FieldType.boolean) ∈ gws := gw_in 871 (by decide +kernel) (by decide +kernel)
theorem lk_X3_267 (d : Nat) : LKm RX3 267 (m_X3_readDeeper d) 2 := ⟨(gw_in 868 (by decide +kernel) (by decide +kernel) : Cond.methodLink RX3 267 yX3_readDeeper ∈ gws), iw_X3, cw_X3_readDeeper, (show "TurningSums$Reader" ≠ _ by decide), (show "TurningSums$Reader" ≠ _ by decide), (by decide +kernel : (parseMethodDescriptor yX3_readDeeper.desc).map (fun d => d.parameters.length) = some 2)⟩
theorem im_X3_readDeeper : Cond.instanceMethod yX3_readDeeper ∈ gws := gw_in 870 (by decide +kernel) (by decide +kernel)
theorem se_X3_readDeeper : Cond.selects RX3 yX3_readDeeper yX3_readDeeper ∈ gws := gw_in 25 (by decide +kernel) (by decide +kernel)
theorem cw_X3_takeTwoCharacters : Cond.code yX3_takeTwoCharacters cX3_takeTwoCharacters 2 (Option.some Jvm.ClassFile.FieldType.boolean) ∈ gws := gw_in 851 (by decide +kernel) (by decide +kernel)
theorem lk_X3_260 : LKm RX3 260 m_X3_takeTwoCharacters 0 := ⟨(gw_in 848 (by decide +kernel) (by decide +kernel) : Cond.methodLink RX3 260 yX3_takeTwoCharacters ∈ gws), iw_X3, cw_X3_takeTwoCharacters, (show "TurningSums$Reader" ≠ _ by decide), (show "TurningSums$Reader" ≠ _ by decide), (by decide +kernel : (parseMethodDescriptor yX3_takeTwoCharacters.desc).map (fun d => d.parameters.length) = some 0)⟩
theorem lk_X3_263 : LKm RX3 263 m_X2_jacobiSum 4 := ⟨(gw_in 856 (by decide +kernel) (by decide +kernel) : Cond.methodLink RX3 263 yX2_jacobiSum ∈ gws), iw_X2, cw_X2_jacobiSum, (show "TurningSums$Field" ≠ _ by decide), (show "TurningSums$Field" ≠ _ by decide), (by decide +kernel : (parseMethodDescriptor yX2_jacobiSum.desc).map (fun d => d.parameters.length) = some 4)⟩
theorem im_X3_takeTwoCharacters : Cond.instanceMethod yX3_takeTwoCharacters ∈ gws := gw_in 850 (by decide +kernel) (by decide +kernel)
theorem se_X3_takeTwoCharacters : Cond.selects RX3 yX3_takeTwoCharacters yX3_takeTwoCharacters ∈ gws := gw_in 23 (by decide +kernel) (by decide +kernel)
theorem cw_X5_powerOfZ : Cond.code yX5_powerOfZ cX5_powerOfZ 4 (Option.none : Option Jvm.ClassFile.FieldType) ∈ gws := gw_in 820 (by decide +kernel) (by decide +kernel)
theorem lk_X3_256 : LKm RX3 256 m_X5_powerOfZ 3 := ⟨(gw_in 817 (by decide +kernel) (by decide +kernel) : Cond.methodLink RX3 256 yX5_powerOfZ ∈ gws), iw_X5, cw_X5_powerOfZ, (show "TurningSums$Ring" ≠ _ by decide), (show "TurningSums$Ring" ≠ _ by decide), (by decide +kernel : (parseMethodDescriptor yX5_powerOfZ.desc).map (fun d => d.parameters.length) = some 3)⟩
theorem im_X5_powerOfZ : Cond.instanceMethod yX5_powerOfZ ∈ gws := gw_in 818 (by decide +kernel) (by decide +kernel)
theorem se_X5_powerOfZ : Cond.selects RX5 yX5_powerOfZ yX5_powerOfZ ∈ gws := gw_in 819 (by decide +kernel) (by decide +kernel)
theorem cw_X3_readLetName : Cond.code yX3_readLetName cX3_readLetName 3 (Option.some Jvm.ClassFile.FieldType.boolean) ∈ gws := gw_in 800 (by decide +kernel) (by decide +kernel)
theorem lk_X3_253 : LKm RX3 253 m_X3_readLetName 1 := ⟨(gw_in 797 (by decide +kernel) (by decide +kernel) : Cond.methodLink RX3 253 yX3_readLetName ∈ gws), iw_X3, cw_X3_readLetName, (show "TurningSums$Reader" ≠ _ by decide), (show "TurningSums$Reader" ≠ _ by decide), (by decide +kernel : (parseMethodDescriptor yX3_readLetName.desc).map (fun d => d.parameters.length) = some 1)⟩
theorem im_X3_readLetName : Cond.instanceMethod yX3_readLetName ∈ gws := gw_in 799 (by decide +kernel) (by decide +kernel)
theorem se_X3_readLetName : Cond.selects RX3 yX3_readLetName yX3_readLetName ∈ gws := gw_in 22 (by decide +kernel) (by decide +kernel)
theorem lk_X3_249 : LKm RX3 249 m_X6_setWhole 2 := ⟨(gw_in 794 (by decide +kernel) (by decide +kernel) : Cond.methodLink RX3 249 yX6_setWhole ∈ gws), iw_X6, cw_X6_setWhole, (show "TurningSums$Rows" ≠ _ by decide), (show "TurningSums$Rows" ≠ _ by decide), (by decide +kernel : (parseMethodDescriptor yX6_setWhole.desc).map (fun d => d.parameters.length) = some 2)⟩
theorem cw_X5_turnRow : Cond.code yX5_turnRow cX5_turnRow 7 (Option.none : Option Jvm.ClassFile.FieldType) ∈ gws := gw_in 882 (by decide +kernel) (by decide +kernel)
theorem lk_X3_285 : LKm RX3 285 m_X5_turnRow 4 := ⟨(gw_in 879 (by decide +kernel) (by decide +kernel) : Cond.methodLink RX3 285 yX5_turnRow ∈ gws), iw_X5, cw_X5_turnRow, (show "TurningSums$Ring" ≠ _ by decide), (show "TurningSums$Ring" ≠ _ by decide), (by decide +kernel : (parseMethodDescriptor yX5_turnRow.desc).map (fun d => d.parameters.length) = some 4)⟩
theorem im_X5_turnRow : Cond.instanceMethod yX5_turnRow ∈ gws := gw_in 880 (by decide +kernel) (by decide +kernel)
theorem se_X5_turnRow : Cond.selects RX5 yX5_turnRow yX5_turnRow ∈ gws := gw_in 881 (by decide +kernel) (by decide +kernel)
theorem cw_X2_hasTurn : Cond.code yX2_hasTurn cX2_hasTurn 2 (Option.some Jvm.ClassFile.FieldType.boolean) ∈ gws := gw_in 875 (by decide +kernel) (by decide +kernel)
theorem lk_X3_282 : LKm RX3 282 m_X2_hasTurn 1 := ⟨(gw_in 872 (by decide +kernel) (by decide +kernel) : Cond.methodLink RX3 282 yX2_hasTurn ∈ gws), iw_X2, cw_X2_hasTurn, (show "TurningSums$Field" ≠ _ by decide), (show "TurningSums$Field" ≠ _ by decide), (by decide +kernel : (parseMethodDescriptor yX2_hasTurn.desc).map (fun d => d.parameters.length) = some 1)⟩
theorem im_X2_hasTurn : Cond.instanceMethod yX2_hasTurn ∈ gws := gw_in 873 (by decide +kernel) (by decide +kernel)
theorem se_X2_hasTurn : Cond.selects RX2 yX2_hasTurn yX2_hasTurn ∈ gws := gw_in 874 (by decide +kernel) (by decide +kernel)
theorem cw_X3_readSum : Cond.code yX3_readSum cX3_readSum 6 (Option.some Jvm.ClassFile.FieldType.boolean) ∈ gws := gw_in 782 (by decide +kernel) (by decide +kernel)
theorem lk_X3_209 (d : Nat) : LKm RX3 209 (m_X3_readSum d) 1 := ⟨(gw_in 779 (by decide +kernel) (by decide +kernel) : Cond.methodLink RX3 209 yX3_readSum ∈ gws), iw_X3, cw_X3_readSum, (show "TurningSums$Reader" ≠ _ by decide), (show "TurningSums$Reader" ≠ _ by decide), (by decide +kernel : (parseMethodDescriptor yX3_readSum.desc).map (fun d => d.parameters.length) = some 1)⟩
theorem im_X3_readSum : Cond.instanceMethod yX3_readSum ∈ gws := gw_in 781 (by decide +kernel) (by decide +kernel)
theorem se_X3_readSum : Cond.selects RX3 yX3_readSum yX3_readSum ∈ gws := gw_in 19 (by decide +kernel) (by decide +kernel)
theorem cw_X0_letsHeld : Cond.code yX0_letsHeld cX0_letsHeld 1 (Option.some Jvm.ClassFile.FieldType.int) ∈ gws := gw_in 778 (by decide +kernel) (by decide +kernel)
theorem lk_X3_206 : LKm RX3 206 m_X0_letsHeld 0 := ⟨(gw_in 775 (by decide +kernel) (by decide +kernel) : Cond.methodLink RX3 206 yX0_letsHeld ∈ gws), iw_X0, cw_X0_letsHeld, (show "TurningSums$Book" ≠ _ by decide), (show "TurningSums$Book" ≠ _ by decide), (by decide +kernel : (parseMethodDescriptor yX0_letsHeld.desc).map (fun d => d.parameters.length) = some 0)⟩
theorem cw_X0_tellLet : Cond.code yX0_tellLet cX0_tellLet 5 (Option.none : Option Jvm.ClassFile.FieldType) ∈ gws := gw_in 899 (by decide +kernel) (by decide +kernel)
theorem lk_X3_218 : LKm RX3 218 m_X0_tellLet 3 := ⟨(gw_in 896 (by decide +kernel) (by decide +kernel) : Cond.methodLink RX3 218 yX0_tellLet ∈ gws), iw_X0, cw_X0_tellLet, (show "TurningSums$Book" ≠ _ by decide), (show "TurningSums$Book" ≠ _ by decide), (by decide +kernel : (parseMethodDescriptor yX0_tellLet.desc).map (fun d => d.parameters.length) = some 3)⟩
theorem im_X0_tellLet : Cond.instanceMethod yX0_tellLet ∈ gws := gw_in 897 (by decide +kernel) (by decide +kernel)
theorem se_X0_tellLet : Cond.selects RX0 yX0_tellLet yX0_tellLet ∈ gws := gw_in 898 (by decide +kernel) (by decide +kernel)
theorem im_X0_letsHeld : Cond.instanceMethod yX0_letsHeld ∈ gws := gw_in 776 (by decide +kernel) (by decide +kernel)
theorem se_X0_letsHeld : Cond.selects RX0 yX0_letsHeld yX0_letsHeld ∈ gws := gw_in 777 (by decide +kernel) (by decide +kernel)
theorem cw_X3_readLet : Cond.code yX3_readLet cX3_readLet 1 (Option.some Jvm.ClassFile.FieldType.boolean) ∈ gws := gw_in 774 (by decide +kernel) (by decide +kernel)
theorem lk_X3_108 : LKm RX3 108 m_X3_readLet 0 := ⟨(gw_in 771 (by decide +kernel) (by decide +kernel) : Cond.methodLink RX3 108 yX3_readLet ∈ gws), iw_X3, cw_X3_readLet, (show "TurningSums$Reader" ≠ _ by decide), (show "TurningSums$Reader" ≠ _ by decide), (by decide +kernel : (parseMethodDescriptor yX3_readLet.desc).map (fun d => d.parameters.length) = some 0)⟩
theorem cw_X9_atEnd : Cond.code yX9_atEnd cX9_atEnd 1 (Option.some Jvm.ClassFile.FieldType.boolean) ∈ gws := gw_in 904 (by decide +kernel) (by decide +kernel)
theorem lk_X3_85 : LKm RX3 85 m_X9_atEnd 0 := ⟨(gw_in 901 (by decide +kernel) (by decide +kernel) : Cond.methodLink RX3 85 yX9_atEnd ∈ gws), iw_X9, cw_X9_atEnd, (show "TurningSums$Tape" ≠ _ by decide), (show "TurningSums$Tape" ≠ _ by decide), (by decide +kernel : (parseMethodDescriptor yX9_atEnd.desc).map (fun d => d.parameters.length) = some 0)⟩
theorem im_X9_atEnd : Cond.instanceMethod yX9_atEnd ∈ gws := gw_in 902 (by decide +kernel) (by decide +kernel)
theorem se_X9_atEnd : Cond.selects RX9 yX9_atEnd yX9_atEnd ∈ gws := gw_in 903 (by decide +kernel) (by decide +kernel)
theorem im_X3_readLet : Cond.instanceMethod yX3_readLet ∈ gws := gw_in 773 (by decide +kernel) (by decide +kernel)
theorem se_X3_readLet : Cond.selects RX3 yX3_readLet yX3_readLet ∈ gws := gw_in 18 (by decide +kernel) (by decide +kernel)
theorem cw_X3_readEquation : Cond.code yX3_readEquation cX3_readEquation 2 (Option.some Jvm.ClassFile.FieldType.boolean) ∈ gws := gw_in 708 (by decide +kernel) (by decide +kernel)
theorem lk_X3_105 : LKm RX3 105 m_X3_readEquation 0 := ⟨(gw_in 705 (by decide +kernel) (by decide +kernel) : Cond.methodLink RX3 105 yX3_readEquation ∈ gws), iw_X3, cw_X3_readEquation, (show "TurningSums$Reader" ≠ _ by decide), (show "TurningSums$Reader" ≠ _ by decide), (by decide +kernel : (parseMethodDescriptor yX3_readEquation.desc).map (fun d => d.parameters.length) = some 0)⟩
theorem im_X3_readEquation : Cond.instanceMethod yX3_readEquation ∈ gws := gw_in 707 (by decide +kernel) (by decide +kernel)
theorem se_X3_readEquation : Cond.selects RX3 yX3_readEquation yX3_readEquation ∈ gws := gw_in 14 (by decide +kernel) (by decide +kernel)
theorem cw_X3_readField : Cond.code yX3_readField cX3_readField 2 (Option.some Jvm.ClassFile.FieldType.boolean) ∈ gws := gw_in 627 (by decide +kernel) (by decide +kernel)
theorem lk_X3_102 : LKm RX3 102 m_X3_readField 0 := ⟨(gw_in 624 (by decide +kernel) (by decide +kernel) : Cond.methodLink RX3 102 yX3_readField ∈ gws), iw_X3, cw_X3_readField, (show "TurningSums$Reader" ≠ _ by decide), (show "TurningSums$Reader" ≠ _ by decide), (by decide +kernel : (parseMethodDescriptor yX3_readField.desc).map (fun d => d.parameters.length) = some 0)⟩
theorem im_X3_readField : Cond.instanceMethod yX3_readField ∈ gws := gw_in 626 (by decide +kernel) (by decide +kernel)
theorem se_X3_readField : Cond.selects RX3 yX3_readField yX3_readField ∈ gws := gw_in 6 (by decide +kernel) (by decide +kernel)
theorem cw_X0_empty : Cond.code yX0_empty cX0_empty 1 (Option.none : Option Jvm.ClassFile.FieldType) ∈ gws := gw_in 521 (by decide +kernel) (by decide +kernel)
theorem lk_X3_74 : LKm RX3 74 m_X0_empty 0 := ⟨(gw_in 518 (by decide +kernel) (by decide +kernel) : Cond.methodLink RX3 74 yX0_empty ∈ gws), iw_X0, cw_X0_empty, (show "TurningSums$Book" ≠ _ by decide), (show "TurningSums$Book" ≠ _ by decide), (by decide +kernel : (parseMethodDescriptor yX0_empty.desc).map (fun d => d.parameters.length) = some 0)⟩
theorem cw_X9_split : Cond.code yX9_split cX9_split 5 (Option.none : Option Jvm.ClassFile.FieldType) ∈ gws := gw_in 525 (by decide +kernel) (by decide +kernel)
theorem lk_X3_77 : LKm RX3 77 m_X9_split 1 := ⟨(gw_in 522 (by decide +kernel) (by decide +kernel) : Cond.methodLink RX3 77 yX9_split ∈ gws), iw_X9, cw_X9_split, (show "TurningSums$Tape" ≠ _ by decide), (show "TurningSums$Tape" ≠ _ by decide), (by decide +kernel : (parseMethodDescriptor yX9_split.desc).map (fun d => d.parameters.length) = some 1)⟩
theorem cw_X3_readLine : Cond.code yX3_readLine cX3_readLine 2 (Option.some Jvm.ClassFile.FieldType.boolean) ∈ gws := gw_in 619 (by decide +kernel) (by decide +kernel)
theorem lk_X3_81 : LKm RX3 81 m_X3_readLine 0 := ⟨(gw_in 616 (by decide +kernel) (by decide +kernel) : Cond.methodLink RX3 81 yX3_readLine ∈ gws), iw_X3, cw_X3_readLine, (show "TurningSums$Reader" ≠ _ by decide), (show "TurningSums$Reader" ≠ _ by decide), (by decide +kernel : (parseMethodDescriptor yX3_readLine.desc).map (fun d => d.parameters.length) = some 0)⟩
theorem im_X3_readLine : Cond.instanceMethod yX3_readLine ∈ gws := gw_in 618 (by decide +kernel) (by decide +kernel)
theorem se_X3_readLine : Cond.selects RX3 yX3_readLine yX3_readLine ∈ gws := gw_in 5 (by decide +kernel) (by decide +kernel)
theorem im_X9_split : Cond.instanceMethod yX9_split ∈ gws := gw_in 523 (by decide +kernel) (by decide +kernel)
theorem se_X9_split : Cond.selects RX9 yX9_split yX9_split ∈ gws := gw_in 524 (by decide +kernel) (by decide +kernel)
theorem im_X0_empty : Cond.instanceMethod yX0_empty ∈ gws := gw_in 519 (by decide +kernel) (by decide +kernel)
theorem se_X0_empty : Cond.selects RX0 yX0_empty yX0_empty ∈ gws := gw_in 520 (by decide +kernel) (by decide +kernel)
theorem fkm_X4_11 : Cond.fieldLink RX4 11 (TX4 0).1 (TX4 0).2.1 (TX4 0).2.2.1 ∈ gws := gw_in 409 (by decide +kernel) (by decide +kernel)
theorem fk_X4_11 : LK RX4 11 TX4 0 := Or.inl fkm_X4_11
theorem fkm_X4_15 : Cond.fieldLink RX4 15 (TX4 1).1 (TX4 1).2.1 (TX4 1).2.2.1 ∈ gws := gw_in 410 (by decide +kernel) (by decide +kernel)
theorem fk_X4_15 : LK RX4 15 TX4 1 := Or.inl fkm_X4_15
theorem fkm_X4_18 : Cond.fieldLink RX4 18 (TX4 2).1 (TX4 2).2.1 (TX4 2).2.2.1 ∈ gws := gw_in 411 (by decide +kernel) (by decide +kernel)
theorem fk_X4_18 : LK RX4 18 TX4 2 := Or.inl fkm_X4_18
theorem fkm_X4_22 : Cond.fieldLink RX4 22 (TX4 3).1 (TX4 3).2.1 (TX4 3).2.2.1 ∈ gws := gw_in 412 (by decide +kernel) (by decide +kernel)
theorem fk_X4_22 : LK RX4 22 TX4 3 := Or.inl fkm_X4_22
theorem fkm_X4_25 : Cond.fieldLink RX4 25 (TX4 4).1 (TX4 4).2.1 (TX4 4).2.2.1 ∈ gws := gw_in 413 (by decide +kernel) (by decide +kernel)
theorem fk_X4_25 : LK RX4 25 TX4 4 := Or.inl fkm_X4_25
theorem fkm_X4_28 : Cond.fieldLink RX4 28 (TX4 5).1 (TX4 5).2.1 (TX4 5).2.2.1 ∈ gws := gw_in 414 (by decide +kernel) (by decide +kernel)
theorem fk_X4_28 : LK RX4 28 TX4 5 := Or.inl fkm_X4_28
theorem oi_X4_5 : Cond.methodLink RX4 5 Lib.objectInit ∈ gws := gw_in 408 (by decide +kernel) (by decide +kernel)
theorem lk_X4_41 : LKm RX4 41 m_X6_put 3 := ⟨(gw_in 925 (by decide +kernel) (by decide +kernel) : Cond.methodLink RX4 41 yX6_put ∈ gws), iw_X6, cw_X6_put, (show "TurningSums$Rows" ≠ _ by decide), (show "TurningSums$Rows" ≠ _ by decide), (by decide +kernel : (parseMethodDescriptor yX6_put.desc).map (fun d => d.parameters.length) = some 3)⟩
theorem iw_X4 : Cond.initialized RX4 ∈ gws := gw_in 123 (by decide +kernel) (by decide +kernel)
theorem cw_X4_clearTo : Cond.code yX4_clearTo cX4_clearTo 3 (Option.none : Option Jvm.ClassFile.FieldType) ∈ gws := gw_in 924 (by decide +kernel) (by decide +kernel)
theorem lk_X4_31 : LKm RX4 31 m_X4_clearTo 1 := ⟨(gw_in 921 (by decide +kernel) (by decide +kernel) : Cond.methodLink RX4 31 yX4_clearTo ∈ gws), iw_X4, cw_X4_clearTo, (show "TurningSums$Registers" ≠ _ by decide), (show "TurningSums$Registers" ≠ _ by decide), (by decide +kernel : (parseMethodDescriptor yX4_clearTo.desc).map (fun d => d.parameters.length) = some 1)⟩
theorem im_X4_clearTo : Cond.instanceMethod yX4_clearTo ∈ gws := gw_in 922 (by decide +kernel) (by decide +kernel)
theorem se_X4_clearTo : Cond.selects RX4 yX4_clearTo yX4_clearTo ∈ gws := gw_in 923 (by decide +kernel) (by decide +kernel)
theorem lk_X4_35 : LKm RX4 35 m_X6_at 2 := ⟨(gw_in 1231 (by decide +kernel) (by decide +kernel) : Cond.methodLink RX4 35 yX6_at ∈ gws), iw_X6, cw_X6_at, (show "TurningSums$Rows" ≠ _ by decide), (show "TurningSums$Rows" ≠ _ by decide), (by decide +kernel : (parseMethodDescriptor yX6_at.desc).map (fun d => d.parameters.length) = some 2)⟩
theorem cw_X4_startOf : Cond.code yX4_startOf cX4_startOf 2 (Option.some Jvm.ClassFile.FieldType.int) ∈ gws := gw_in 1261 (by decide +kernel) (by decide +kernel)
theorem lk_X4_45 : LKm RX4 45 m_X4_startOf 1 := ⟨(gw_in 1258 (by decide +kernel) (by decide +kernel) : Cond.methodLink RX4 45 yX4_startOf ∈ gws), iw_X4, cw_X4_startOf, (show "TurningSums$Registers" ≠ _ by decide), (show "TurningSums$Registers" ≠ _ by decide), (by decide +kernel : (parseMethodDescriptor yX4_startOf.desc).map (fun d => d.parameters.length) = some 1)⟩
theorem im_X4_startOf : Cond.instanceMethod yX4_startOf ∈ gws := gw_in 1260 (by decide +kernel) (by decide +kernel)
theorem se_X4_startOf : Cond.selects RX4 yX4_startOf yX4_startOf ∈ gws := gw_in 38 (by decide +kernel) (by decide +kernel)
theorem lk_X4_49 : LKm RX4 49 m_X6_mod 2 := ⟨(gw_in 1227 (by decide +kernel) (by decide +kernel) : Cond.methodLink RX4 49 yX6_mod ∈ gws), iw_X6, cw_X6_mod, (show "TurningSums$Rows" ≠ _ by decide), (show "TurningSums$Rows" ≠ _ by decide), (by decide +kernel : (parseMethodDescriptor yX6_mod.desc).map (fun d => d.parameters.length) = some 2)⟩
theorem cw_X4_copyState : Cond.code yX4_copyState cX4_copyState 5 (Option.none : Option Jvm.ClassFile.FieldType) ∈ gws := gw_in 1230 (by decide +kernel) (by decide +kernel)
theorem lk_X4_53 : LKm RX4 53 m_X4_copyState 4 := ⟨(gw_in 1228 (by decide +kernel) (by decide +kernel) : Cond.methodLink RX4 53 yX4_copyState ∈ gws), iw_X4, cw_X4_copyState, (show "TurningSums$Registers" ≠ _ by decide), (show "TurningSums$Registers" ≠ _ by decide), (by decide +kernel : (parseMethodDescriptor yX4_copyState.desc).map (fun d => d.parameters.length) = some 4)⟩
theorem lk_X4_57 : LKm RX4 57 m_J9_min_7cf53 2 := ⟨(gw_in 1232 (by decide +kernel) (by decide +kernel) : Cond.methodLink RX4 57 yJ9_min_7cf53 ∈ gws), iw_J9, cw_J9_min_7cf53, (show "java/lang/Math" ≠ _ by decide), (show "java/lang/Math" ≠ _ by decide), (by decide +kernel : (parseMethodDescriptor yJ9_min_7cf53.desc).map (fun d => d.parameters.length) = some 2)⟩
theorem sw_X4_copyState : Cond.static yX4_copyState ∈ gws := gw_in 1229 (by decide +kernel) (by decide +kernel)
theorem fkm_X7_9 : Cond.fieldLink RX7 9 (TX7 0).1 (TX7 0).2.1 (TX7 0).2.2.1 ∈ gws := gw_in 434 (by decide +kernel) (by decide +kernel)
theorem fk_X7_9 : LK RX7 9 TX7 0 := Or.inl fkm_X7_9
theorem fkm_X7_15 : Cond.fieldLink RX7 15 (TX7 1).1 (TX7 1).2.1 (TX7 1).2.2.1 ∈ gws := gw_in 435 (by decide +kernel) (by decide +kernel)
theorem fk_X7_15 : LK RX7 15 TX7 1 := Or.inl fkm_X7_15
theorem fkm_X7_18 : Cond.fieldLink RX7 18 (TX7 2).1 (TX7 2).2.1 (TX7 2).2.2.1 ∈ gws := gw_in 436 (by decide +kernel) (by decide +kernel)
theorem fk_X7_18 : LK RX7 18 TX7 2 := Or.inl fkm_X7_18
theorem oi_X7_1 : Cond.methodLink RX7 1 Lib.objectInit ∈ gws := gw_in 433 (by decide +kernel) (by decide +kernel)
theorem lk_X7_22 : LKm RX7 22 m_X2_prime 0 := ⟨(gw_in 1177 (by decide +kernel) (by decide +kernel) : Cond.methodLink RX7 22 yX2_prime ∈ gws), iw_X2, cw_X2_prime, (show "TurningSums$Field" ≠ _ by decide), (show "TurningSums$Field" ≠ _ by decide), (by decide +kernel : (parseMethodDescriptor yX2_prime.desc).map (fun d => d.parameters.length) = some 0)⟩
theorem lk_X7_26 : LKm RX7 26 m_X6_mark 3 := ⟨(gw_in 1178 (by decide +kernel) (by decide +kernel) : Cond.methodLink RX7 26 yX6_mark ∈ gws), iw_X6, cw_X6_mark, (show "TurningSums$Rows" ≠ _ by decide), (show "TurningSums$Rows" ≠ _ by decide), (by decide +kernel : (parseMethodDescriptor yX6_mark.desc).map (fun d => d.parameters.length) = some 3)⟩
theorem lk_X7_32 : LKm RX7 32 m_X2_logOf 1 := ⟨(gw_in 1179 (by decide +kernel) (by decide +kernel) : Cond.methodLink RX7 32 yX2_logOf ∈ gws), iw_X2, cw_X2_logOf, (show "TurningSums$Field" ≠ _ by decide), (show "TurningSums$Field" ≠ _ by decide), (by decide +kernel : (parseMethodDescriptor yX2_logOf.desc).map (fun d => d.parameters.length) = some 1)⟩
theorem lk_X7_36 : LKm RX7 36 m_X6_cell 2 := ⟨(gw_in 1189 (by decide +kernel) (by decide +kernel) : Cond.methodLink RX7 36 yX6_cell ∈ gws), iw_X6, cw_X6_cell, (show "TurningSums$Rows" ≠ _ by decide), (show "TurningSums$Rows" ≠ _ by decide), (by decide +kernel : (parseMethodDescriptor yX6_cell.desc).map (fun d => d.parameters.length) = some 2)⟩
theorem lk_X7_40 : LKm RX7 40 m_X6_mod 2 := ⟨(gw_in 1184 (by decide +kernel) (by decide +kernel) : Cond.methodLink RX7 40 yX6_mod ∈ gws), iw_X6, cw_X6_mod, (show "TurningSums$Rows" ≠ _ by decide), (show "TurningSums$Rows" ≠ _ by decide), (by decide +kernel : (parseMethodDescriptor yX6_mod.desc).map (fun d => d.parameters.length) = some 2)⟩
theorem iw_X7 : Cond.initialized RX7 ∈ gws := gw_in 124 (by decide +kernel) (by decide +kernel)
theorem cw_X7_signAt : Cond.code yX7_signAt cX7_signAt 2 (Option.some Jvm.ClassFile.FieldType.int) ∈ gws := gw_in 1188 (by decide +kernel) (by decide +kernel)
theorem lk_X7_44 : LKm RX7 44 m_X7_signAt 1 := ⟨(gw_in 1185 (by decide +kernel) (by decide +kernel) : Cond.methodLink RX7 44 yX7_signAt ∈ gws), iw_X7, cw_X7_signAt, (show "TurningSums$SignRow" ≠ _ by decide), (show "TurningSums$SignRow" ≠ _ by decide), (by decide +kernel : (parseMethodDescriptor yX7_signAt.desc).map (fun d => d.parameters.length) = some 1)⟩
theorem im_X7_signAt : Cond.instanceMethod yX7_signAt ∈ gws := gw_in 1187 (by decide +kernel) (by decide +kernel)
theorem se_X7_signAt : Cond.selects RX7 yX7_signAt yX7_signAt ∈ gws := gw_in 32 (by decide +kernel) (by decide +kernel)
theorem cw_X7_echoAt : Cond.code yX7_echoAt cX7_echoAt 5 (Option.some Jvm.ClassFile.FieldType.int) ∈ gws := gw_in 1183 (by decide +kernel) (by decide +kernel)
theorem lk_X7_47 : LKm RX7 47 m_X7_echoAt 2 := ⟨(gw_in 1198 (by decide +kernel) (by decide +kernel) : Cond.methodLink RX7 47 yX7_echoAt ∈ gws), iw_X7, cw_X7_echoAt, (show "TurningSums$SignRow" ≠ _ by decide), (show "TurningSums$SignRow" ≠ _ by decide), (by decide +kernel : (parseMethodDescriptor yX7_echoAt.desc).map (fun d => d.parameters.length) = some 2)⟩
theorem im_X7_echoAt : Cond.instanceMethod yX7_echoAt ∈ gws := gw_in 1181 (by decide +kernel) (by decide +kernel)
theorem se_X7_echoAt : Cond.selects RX7 yX7_echoAt yX7_echoAt ∈ gws := gw_in 1182 (by decide +kernel) (by decide +kernel)
theorem cw_X7_noiseOfEchoes : Cond.code yX7_noiseOfEchoes cX7_noiseOfEchoes 6 (Option.some Jvm.ClassFile.FieldType.long) ∈ gws := gw_in 1210 (by decide +kernel) (by decide +kernel)
theorem lk_X7_51 : LKm RX7 51 m_X7_noiseOfEchoes 0 := ⟨(gw_in 1207 (by decide +kernel) (by decide +kernel) : Cond.methodLink RX7 51 yX7_noiseOfEchoes ∈ gws), iw_X7, cw_X7_noiseOfEchoes, (show "TurningSums$SignRow" ≠ _ by decide), (show "TurningSums$SignRow" ≠ _ by decide), (by decide +kernel : (parseMethodDescriptor yX7_noiseOfEchoes.desc).map (fun d => d.parameters.length) = some 0)⟩
theorem cw_X7_passOn : Cond.code yX7_passOn cX7_passOn 4 (Option.none : Option Jvm.ClassFile.FieldType) ∈ gws := gw_in 1214 (by decide +kernel) (by decide +kernel)
theorem lk_X7_55 : LKm RX7 55 m_X7_passOn 1 := ⟨(gw_in 1211 (by decide +kernel) (by decide +kernel) : Cond.methodLink RX7 55 yX7_passOn ∈ gws), iw_X7, cw_X7_passOn, (show "TurningSums$SignRow" ≠ _ by decide), (show "TurningSums$SignRow" ≠ _ by decide), (by decide +kernel : (parseMethodDescriptor yX7_passOn.desc).map (fun d => d.parameters.length) = some 1)⟩
theorem im_X7_noiseOfEchoes : Cond.instanceMethod yX7_noiseOfEchoes ∈ gws := gw_in 1209 (by decide +kernel) (by decide +kernel)
theorem se_X7_noiseOfEchoes : Cond.selects RX7 yX7_noiseOfEchoes yX7_noiseOfEchoes ∈ gws := gw_in 33 (by decide +kernel) (by decide +kernel)
theorem im_X7_passOn : Cond.instanceMethod yX7_passOn ∈ gws := gw_in 1213 (by decide +kernel) (by decide +kernel)
theorem se_X7_passOn : Cond.selects RX7 yX7_passOn yX7_passOn ∈ gws := gw_in 34 (by decide +kernel) (by decide +kernel)
theorem lk_X8_11 : LKm RX8 11 m_X6_mod 2 := ⟨(gw_in 1106 (by decide +kernel) (by decide +kernel) : Cond.methodLink RX8 11 yX6_mod ∈ gws), iw_X6, cw_X6_mod, (show "TurningSums$Rows" ≠ _ by decide), (show "TurningSums$Rows" ≠ _ by decide), (by decide +kernel : (parseMethodDescriptor yX6_mod.desc).map (fun d => d.parameters.length) = some 2)⟩
theorem cw_X8_isSquare : Cond.code yX8_isSquare cX8_isSquare 2 (Option.some Jvm.ClassFile.FieldType.boolean) ∈ gws := gw_in 1120 (by decide +kernel) (by decide +kernel)
theorem lk_X8_17 : LKm RX8 17 m_X8_isSquare 1 := ⟨(gw_in 1118 (by decide +kernel) (by decide +kernel) : Cond.methodLink RX8 17 yX8_isSquare ∈ gws), iw_X8, cw_X8_isSquare, (show "TurningSums$Squares" ≠ _ by decide), (show "TurningSums$Squares" ≠ _ by decide), (by decide +kernel : (parseMethodDescriptor yX8_isSquare.desc).map (fun d => d.parameters.length) = some 1)⟩
theorem sw_X8_isSquare : Cond.static yX8_isSquare ∈ gws := gw_in 1119 (by decide +kernel) (by decide +kernel)
theorem cw_X8_signOf : Cond.code yX8_signOf cX8_signOf 4 (Option.some Jvm.ClassFile.FieldType.int) ∈ gws := gw_in 1105 (by decide +kernel) (by decide +kernel)
theorem lk_X8_23 : LKm RX8 23 m_X8_signOf 2 := ⟨(gw_in 1137 (by decide +kernel) (by decide +kernel) : Cond.methodLink RX8 23 yX8_signOf ∈ gws), iw_X8, cw_X8_signOf, (show "TurningSums$Squares" ≠ _ by decide), (show "TurningSums$Squares" ≠ _ by decide), (by decide +kernel : (parseMethodDescriptor yX8_signOf.desc).map (fun d => d.parameters.length) = some 2)⟩
theorem sw_X8_signOf : Cond.static yX8_signOf ∈ gws := gw_in 1104 (by decide +kernel) (by decide +kernel)
theorem lk_X8_31 : LKm RX8 31 m_X8_commonPart 2 := ⟨(gw_in 1148 (by decide +kernel) (by decide +kernel) : Cond.methodLink RX8 31 yX8_commonPart ∈ gws), iw_X8, cw_X8_commonPart, (show "TurningSums$Squares" ≠ _ by decide), (show "TurningSums$Squares" ≠ _ by decide), (by decide +kernel : (parseMethodDescriptor yX8_commonPart.desc).map (fun d => d.parameters.length) = some 2)⟩
theorem cw_X8_isReducedForm : Cond.code yX8_isReducedForm cX8_isReducedForm 4 (Option.some Jvm.ClassFile.FieldType.boolean) ∈ gws := gw_in 1147 (by decide +kernel) (by decide +kernel)
theorem lk_X8_27 : LKm RX8 27 m_X8_isReducedForm 3 := ⟨(gw_in 1145 (by decide +kernel) (by decide +kernel) : Cond.methodLink RX8 27 yX8_isReducedForm ∈ gws), iw_X8, cw_X8_isReducedForm, (show "TurningSums$Squares" ≠ _ by decide), (show "TurningSums$Squares" ≠ _ by decide), (by decide +kernel : (parseMethodDescriptor yX8_isReducedForm.desc).map (fun d => d.parameters.length) = some 3)⟩
theorem sw_X8_isReducedForm : Cond.static yX8_isReducedForm ∈ gws := gw_in 1146 (by decide +kernel) (by decide +kernel)
theorem nk_X10_7 : NK RX10 7 RX3 14 := ⟨gw_in 143 (by decide +kernel) (by decide +kernel), gw_in 144 (by decide +kernel) (by decide +kernel), iw_X3⟩
theorem cw_X3_init : Cond.code yX3_init cX3_init 1 (Option.none : Option Jvm.ClassFile.FieldType) ∈ gws := gw_in 147 (by decide +kernel) (by decide +kernel)
theorem lk_X10_9 : LKm RX10 9 m_X3_init 0 := ⟨(gw_in 145 (by decide +kernel) (by decide +kernel) : Cond.methodLink RX10 9 yX3_init ∈ gws), iw_X3, cw_X3_init, (show "TurningSums$Reader" ≠ _ by decide), (show "TurningSums$Reader" ≠ _ by decide), (by decide +kernel : (parseMethodDescriptor yX3_init.desc).map (fun d => d.parameters.length) = some 0)⟩
theorem fkm_X10_10 : Cond.fieldLink RX10 10 (TX10 0).1 (TX10 0).2.1 (TX10 0).2.2.1 ∈ gws := gw_in 446 (by decide +kernel) (by decide +kernel)
theorem fk_X10_10 : LK RX10 10 TX10 0 := Or.inl fkm_X10_10
theorem nk_X10_16 : NK RX10 16 RX5 1 := ⟨gw_in 401 (by decide +kernel) (by decide +kernel), gw_in 252 (by decide +kernel) (by decide +kernel), iw_X5⟩
theorem lk_X10_18 : LKm RX10 18 m_X5_init 0 := ⟨(gw_in 402 (by decide +kernel) (by decide +kernel) : Cond.methodLink RX10 18 yX5_init ∈ gws), iw_X5, cw_X5_init, (show "TurningSums$Ring" ≠ _ by decide), (show "TurningSums$Ring" ≠ _ by decide), (by decide +kernel : (parseMethodDescriptor yX5_init.desc).map (fun d => d.parameters.length) = some 0)⟩
theorem fkm_X10_19 : Cond.fieldLink RX10 19 (TX10 1).1 (TX10 1).2.1 (TX10 1).2.2.1 ∈ gws := gw_in 447 (by decide +kernel) (by decide +kernel)
theorem fk_X10_19 : LK RX10 19 TX10 1 := Or.inl fkm_X10_19
theorem nk_X10_23 : NK RX10 23 RX4 6 := ⟨gw_in 403 (by decide +kernel) (by decide +kernel), gw_in 404 (by decide +kernel) (by decide +kernel), iw_X4⟩
theorem cw_X4_init : Cond.code yX4_init cX4_init 1 (Option.none : Option Jvm.ClassFile.FieldType) ∈ gws := gw_in 407 (by decide +kernel) (by decide +kernel)
theorem lk_X10_25 : LKm RX10 25 m_X4_init 0 := ⟨(gw_in 405 (by decide +kernel) (by decide +kernel) : Cond.methodLink RX10 25 yX4_init ∈ gws), iw_X4, cw_X4_init, (show "TurningSums$Registers" ≠ _ by decide), (show "TurningSums$Registers" ≠ _ by decide), (by decide +kernel : (parseMethodDescriptor yX4_init.desc).map (fun d => d.parameters.length) = some 0)⟩
theorem fkm_X10_26 : Cond.fieldLink RX10 26 (TX10 2).1 (TX10 2).2.1 (TX10 2).2.2.1 ∈ gws := gw_in 448 (by decide +kernel) (by decide +kernel)
theorem fk_X10_26 : LK RX10 26 TX10 2 := Or.inl fkm_X10_26
theorem nk_X10_30 : NK RX10 30 RX7 3 := ⟨gw_in 428 (by decide +kernel) (by decide +kernel), gw_in 429 (by decide +kernel) (by decide +kernel), iw_X7⟩
theorem cw_X7_init : Cond.code yX7_init cX7_init 1 (Option.none : Option Jvm.ClassFile.FieldType) ∈ gws := gw_in 432 (by decide +kernel) (by decide +kernel)
theorem lk_X10_32 : LKm RX10 32 m_X7_init 0 := ⟨(gw_in 430 (by decide +kernel) (by decide +kernel) : Cond.methodLink RX10 32 yX7_init ∈ gws), iw_X7, cw_X7_init, (show "TurningSums$SignRow" ≠ _ by decide), (show "TurningSums$SignRow" ≠ _ by decide), (by decide +kernel : (parseMethodDescriptor yX7_init.desc).map (fun d => d.parameters.length) = some 0)⟩
theorem fkm_X10_33 : Cond.fieldLink RX10 33 (TX10 3).1 (TX10 3).2.1 (TX10 3).2.2.1 ∈ gws := gw_in 449 (by decide +kernel) (by decide +kernel)
theorem fk_X10_33 : LK RX10 33 TX10 3 := Or.inl fkm_X10_33
theorem fkm_X10_37 : Cond.fieldLink RX10 37 (TX10 4).1 (TX10 4).2.1 (TX10 4).2.2.1 ∈ gws := gw_in 450 (by decide +kernel) (by decide +kernel)
theorem fk_X10_37 : LK RX10 37 TX10 4 := Or.inl fkm_X10_37
theorem fkm_X10_41 : Cond.fieldLink RX10 41 (TX10 5).1 (TX10 5).2.1 (TX10 5).2.2.1 ∈ gws := gw_in 451 (by decide +kernel) (by decide +kernel)
theorem fk_X10_41 : LK RX10 41 TX10 5 := Or.inl fkm_X10_41
theorem fkm_X10_44 : Cond.fieldLink RX10 44 (TX10 6).1 (TX10 6).2.1 (TX10 6).2.2.1 ∈ gws := gw_in 452 (by decide +kernel) (by decide +kernel)
theorem fk_X10_44 : LK RX10 44 TX10 6 := Or.inl fkm_X10_44
theorem fkm_X10_47 : Cond.fieldLink RX10 47 (TX10 7).1 (TX10 7).2.1 (TX10 7).2.2.1 ∈ gws := gw_in 453 (by decide +kernel) (by decide +kernel)
theorem fk_X10_47 : LK RX10 47 TX10 7 := Or.inl fkm_X10_47
theorem nk_X10_50 : NK RX10 50 RX0 11 := ⟨gw_in 444 (by decide +kernel) (by decide +kernel), gw_in 264 (by decide +kernel) (by decide +kernel), iw_X0⟩
theorem lk_X10_52 : LKm RX10 52 m_X0_init 0 := ⟨(gw_in 445 (by decide +kernel) (by decide +kernel) : Cond.methodLink RX10 52 yX0_init ∈ gws), iw_X0, cw_X0_init, (show "TurningSums$Book" ≠ _ by decide), (show "TurningSums$Book" ≠ _ by decide), (by decide +kernel : (parseMethodDescriptor yX0_init.desc).map (fun d => d.parameters.length) = some 0)⟩
theorem fkm_X10_53 : Cond.fieldLink RX10 53 (TX10 8).1 (TX10 8).2.1 (TX10 8).2.2.1 ∈ gws := gw_in 454 (by decide +kernel) (by decide +kernel)
theorem fk_X10_53 : LK RX10 53 TX10 8 := Or.inl fkm_X10_53
theorem fkm_X10_57 : Cond.fieldLink RX10 57 (TX10 9).1 (TX10 9).2.1 (TX10 9).2.2.1 ∈ gws := gw_in 455 (by decide +kernel) (by decide +kernel)
theorem fk_X10_57 : LK RX10 57 TX10 9 := Or.inl fkm_X10_57
theorem fkm_X10_61 : Cond.fieldLink RX10 61 (TX10 10).1 (TX10 10).2.1 (TX10 10).2.2.1 ∈ gws := gw_in 456 (by decide +kernel) (by decide +kernel)
theorem fk_X10_61 : LK RX10 61 TX10 10 := Or.inl fkm_X10_61
theorem fkm_X10_64 : Cond.fieldLink RX10 64 (TX10 11).1 (TX10 11).2.1 (TX10 11).2.2.1 ∈ gws := gw_in 457 (by decide +kernel) (by decide +kernel)
theorem fk_X10_64 : LK RX10 64 TX10 11 := Or.inl fkm_X10_64
theorem im_X7_init : Cond.instanceMethod yX7_init ∈ gws := gw_in 431 (by decide +kernel) (by decide +kernel)
theorem im_X4_init : Cond.instanceMethod yX4_init ∈ gws := gw_in 406 (by decide +kernel) (by decide +kernel)
theorem im_X3_init : Cond.instanceMethod yX3_init ∈ gws := gw_in 146 (by decide +kernel) (by decide +kernel)
theorem oi_X10_1 : Cond.methodLink RX10 1 Lib.objectInit ∈ gws := gw_in 140 (by decide +kernel) (by decide +kernel)
theorem cw_X3_tape : Cond.code yX3_tape cX3_tape 1 (Option.some (Jvm.ClassFile.FieldType.object "TurningSums$Tape")) ∈ gws := gw_in 490 (by decide +kernel) (by decide +kernel)
theorem lk_X10_67 : LKm RX10 67 m_X3_tape 0 := ⟨(gw_in 487 (by decide +kernel) (by decide +kernel) : Cond.methodLink RX10 67 yX3_tape ∈ gws), iw_X3, cw_X3_tape, (show "TurningSums$Reader" ≠ _ by decide), (show "TurningSums$Reader" ≠ _ by decide), (by decide +kernel : (parseMethodDescriptor yX3_tape.desc).map (fun d => d.parameters.length) = some 0)⟩
theorem cw_X9_hasRoom : Cond.code yX9_hasRoom cX9_hasRoom 2 (Option.some Jvm.ClassFile.FieldType.boolean) ∈ gws := gw_in 494 (by decide +kernel) (by decide +kernel)
theorem lk_X10_71 : LKm RX10 71 m_X9_hasRoom 1 := ⟨(gw_in 491 (by decide +kernel) (by decide +kernel) : Cond.methodLink RX10 71 yX9_hasRoom ∈ gws), iw_X9, cw_X9_hasRoom, (show "TurningSums$Tape" ≠ _ by decide), (show "TurningSums$Tape" ≠ _ by decide), (by decide +kernel : (parseMethodDescriptor yX9_hasRoom.desc).map (fun d => d.parameters.length) = some 1)⟩
theorem cw_X9_append : Cond.code yX9_append cX9_append 3 (Option.none : Option Jvm.ClassFile.FieldType) ∈ gws := gw_in 498 (by decide +kernel) (by decide +kernel)
theorem lk_X10_77 : LKm RX10 77 m_X9_append 1 := ⟨(gw_in 495 (by decide +kernel) (by decide +kernel) : Cond.methodLink RX10 77 yX9_append ∈ gws), iw_X9, cw_X9_append, (show "TurningSums$Tape" ≠ _ by decide), (show "TurningSums$Tape" ≠ _ by decide), (by decide +kernel : (parseMethodDescriptor yX9_append.desc).map (fun d => d.parameters.length) = some 1)⟩
theorem cw_X9_bytesHeld : Cond.code yX9_bytesHeld cX9_bytesHeld 1 (Option.some Jvm.ClassFile.FieldType.int) ∈ gws := gw_in 505 (by decide +kernel) (by decide +kernel)
theorem lk_X10_81 : LKm RX10 81 m_X9_bytesHeld 0 := ⟨(gw_in 502 (by decide +kernel) (by decide +kernel) : Cond.methodLink RX10 81 yX9_bytesHeld ∈ gws), iw_X9, cw_X9_bytesHeld, (show "TurningSums$Tape" ≠ _ by decide), (show "TurningSums$Tape" ≠ _ by decide), (by decide +kernel : (parseMethodDescriptor yX9_bytesHeld.desc).map (fun d => d.parameters.length) = some 0)⟩
theorem im_X9_bytesHeld : Cond.instanceMethod yX9_bytesHeld ∈ gws := gw_in 503 (by decide +kernel) (by decide +kernel)
theorem se_X9_bytesHeld : Cond.selects RX9 yX9_bytesHeld yX9_bytesHeld ∈ gws := gw_in 504 (by decide +kernel) (by decide +kernel)
theorem im_X9_append : Cond.instanceMethod yX9_append ∈ gws := gw_in 496 (by decide +kernel) (by decide +kernel)
theorem se_X9_append : Cond.selects RX9 yX9_append yX9_append ∈ gws := gw_in 497 (by decide +kernel) (by decide +kernel)
theorem im_X9_hasRoom : Cond.instanceMethod yX9_hasRoom ∈ gws := gw_in 492 (by decide +kernel) (by decide +kernel)
theorem se_X9_hasRoom : Cond.selects RX9 yX9_hasRoom yX9_hasRoom ∈ gws := gw_in 493 (by decide +kernel) (by decide +kernel)
theorem im_X3_tape : Cond.instanceMethod yX3_tape ∈ gws := gw_in 488 (by decide +kernel) (by decide +kernel)
theorem se_X3_tape : Cond.selects RX3 yX3_tape yX3_tape ∈ gws := gw_in 489 (by decide +kernel) (by decide +kernel)
theorem iw_X10 : Cond.initialized RX10 ∈ gws := gw_in 111 (by decide +kernel) (by decide +kernel)
theorem cw_X10_refused : Cond.code yX10_refused cX10_refused 3 (Option.some Jvm.ClassFile.FieldType.int) ∈ gws := gw_in 513 (by decide +kernel) (by decide +kernel)
theorem lk_X10_85 : LKm RX10 85 m_X10_refused 2 := ⟨(gw_in 510 (by decide +kernel) (by decide +kernel) : Cond.methodLink RX10 85 yX10_refused ∈ gws), iw_X10, cw_X10_refused, (show "TurningSums" ≠ _ by decide), (show "TurningSums" ≠ _ by decide), (by decide +kernel : (parseMethodDescriptor yX10_refused.desc).map (fun d => d.parameters.length) = some 2)⟩
theorem im_X10_refused : Cond.instanceMethod yX10_refused ∈ gws := gw_in 512 (by decide +kernel) (by decide +kernel)
theorem se_X10_refused : Cond.selects RX10 yX10_refused yX10_refused ∈ gws := gw_in 0 (by decide +kernel) (by decide +kernel)
theorem cw_X3_read : Cond.code yX3_read cX3_read 3 (Option.some Jvm.ClassFile.FieldType.int) ∈ gws := gw_in 517 (by decide +kernel) (by decide +kernel)
theorem lk_X10_89 : LKm RX10 89 m_X3_read 1 := ⟨(gw_in 514 (by decide +kernel) (by decide +kernel) : Cond.methodLink RX10 89 yX3_read ∈ gws), iw_X3, cw_X3_read, (show "TurningSums$Reader" ≠ _ by decide), (show "TurningSums$Reader" ≠ _ by decide), (by decide +kernel : (parseMethodDescriptor yX3_read.desc).map (fun d => d.parameters.length) = some 1)⟩
theorem cw_X3_faultPlace : Cond.code yX3_faultPlace cX3_faultPlace 1 (Option.some Jvm.ClassFile.FieldType.int) ∈ gws := gw_in 908 (by decide +kernel) (by decide +kernel)
theorem lk_X10_93 : LKm RX10 93 m_X3_faultPlace 0 := ⟨(gw_in 905 (by decide +kernel) (by decide +kernel) : Cond.methodLink RX10 93 yX3_faultPlace ∈ gws), iw_X3, cw_X3_faultPlace, (show "TurningSums$Reader" ≠ _ by decide), (show "TurningSums$Reader" ≠ _ by decide), (by decide +kernel : (parseMethodDescriptor yX3_faultPlace.desc).map (fun d => d.parameters.length) = some 0)⟩
theorem cw_X9_empty : Cond.code yX9_empty cX9_empty 1 (Option.none : Option Jvm.ClassFile.FieldType) ∈ gws := gw_in 912 (by decide +kernel) (by decide +kernel)
theorem lk_X10_95 : LKm RX10 95 m_X9_empty 0 := ⟨(gw_in 909 (by decide +kernel) (by decide +kernel) : Cond.methodLink RX10 95 yX9_empty ∈ gws), iw_X9, cw_X9_empty, (show "TurningSums$Tape" ≠ _ by decide), (show "TurningSums$Tape" ≠ _ by decide), (by decide +kernel : (parseMethodDescriptor yX9_empty.desc).map (fun d => d.parameters.length) = some 0)⟩
theorem cw_X3_exchange : Cond.code yX3_exchange cX3_exchange 3 (Option.some (Jvm.ClassFile.FieldType.object "TurningSums$Book")) ∈ gws := gw_in 916 (by decide +kernel) (by decide +kernel)
theorem lk_X10_98 : LKm RX10 98 m_X3_exchange 1 := ⟨(gw_in 913 (by decide +kernel) (by decide +kernel) : Cond.methodLink RX10 98 yX3_exchange ∈ gws), iw_X3, cw_X3_exchange, (show "TurningSums$Reader" ≠ _ by decide), (show "TurningSums$Reader" ≠ _ by decide), (by decide +kernel : (parseMethodDescriptor yX3_exchange.desc).map (fun d => d.parameters.length) = some 1)⟩
theorem cw_X4_restart : Cond.code yX4_restart cX4_restart 1 (Option.none : Option Jvm.ClassFile.FieldType) ∈ gws := gw_in 920 (by decide +kernel) (by decide +kernel)
theorem lk_X10_102 : LKm RX10 102 m_X4_restart 0 := ⟨(gw_in 917 (by decide +kernel) (by decide +kernel) : Cond.methodLink RX10 102 yX4_restart ∈ gws), iw_X4, cw_X4_restart, (show "TurningSums$Registers" ≠ _ by decide), (show "TurningSums$Registers" ≠ _ by decide), (by decide +kernel : (parseMethodDescriptor yX4_restart.desc).map (fun d => d.parameters.length) = some 0)⟩
theorem lk_X10_105 : LKm RX10 105 m_X0_fieldsHeld 0 := ⟨(gw_in 926 (by decide +kernel) (by decide +kernel) : Cond.methodLink RX10 105 yX0_fieldsHeld ∈ gws), iw_X0, cw_X0_fieldsHeld, (show "TurningSums$Book" ≠ _ by decide), (show "TurningSums$Book" ≠ _ by decide), (by decide +kernel : (parseMethodDescriptor yX0_fieldsHeld.desc).map (fun d => d.parameters.length) = some 0)⟩
theorem cw_X10_answered : Cond.code yX10_answered cX10_answered 2 (Option.some Jvm.ClassFile.FieldType.int) ∈ gws := gw_in 930 (by decide +kernel) (by decide +kernel)
theorem lk_X10_108 : LKm RX10 108 m_X10_answered 1 := ⟨(gw_in 927 (by decide +kernel) (by decide +kernel) : Cond.methodLink RX10 108 yX10_answered ∈ gws), iw_X10, cw_X10_answered, (show "TurningSums" ≠ _ by decide), (show "TurningSums" ≠ _ by decide), (by decide +kernel : (parseMethodDescriptor yX10_answered.desc).map (fun d => d.parameters.length) = some 1)⟩
theorem im_X10_answered : Cond.instanceMethod yX10_answered ∈ gws := gw_in 929 (by decide +kernel) (by decide +kernel)
theorem se_X10_answered : Cond.selects RX10 yX10_answered yX10_answered ∈ gws := gw_in 26 (by decide +kernel) (by decide +kernel)
theorem im_X4_restart : Cond.instanceMethod yX4_restart ∈ gws := gw_in 918 (by decide +kernel) (by decide +kernel)
theorem se_X4_restart : Cond.selects RX4 yX4_restart yX4_restart ∈ gws := gw_in 919 (by decide +kernel) (by decide +kernel)
theorem im_X3_exchange : Cond.instanceMethod yX3_exchange ∈ gws := gw_in 914 (by decide +kernel) (by decide +kernel)
theorem se_X3_exchange : Cond.selects RX3 yX3_exchange yX3_exchange ∈ gws := gw_in 915 (by decide +kernel) (by decide +kernel)
theorem im_X9_empty : Cond.instanceMethod yX9_empty ∈ gws := gw_in 910 (by decide +kernel) (by decide +kernel)
theorem se_X9_empty : Cond.selects RX9 yX9_empty yX9_empty ∈ gws := gw_in 911 (by decide +kernel) (by decide +kernel)
theorem im_X3_faultPlace : Cond.instanceMethod yX3_faultPlace ∈ gws := gw_in 906 (by decide +kernel) (by decide +kernel)
theorem se_X3_faultPlace : Cond.selects RX3 yX3_faultPlace yX3_faultPlace ∈ gws := gw_in 907 (by decide +kernel) (by decide +kernel)
theorem im_X3_read : Cond.instanceMethod yX3_read ∈ gws := gw_in 515 (by decide +kernel) (by decide +kernel)
theorem se_X3_read : Cond.selects RX3 yX3_read yX3_read ∈ gws := gw_in 516 (by decide +kernel) (by decide +kernel)
theorem lk_X10_111 : LKm RX10 111 m_X0_fieldAt 1 := ⟨(gw_in 943 (by decide +kernel) (by decide +kernel) : Cond.methodLink RX10 111 yX0_fieldAt ∈ gws), iw_X0, cw_X0_fieldAt, (show "TurningSums$Book" ≠ _ by decide), (show "TurningSums$Book" ≠ _ by decide), (by decide +kernel : (parseMethodDescriptor yX0_fieldAt.desc).map (fun d => d.parameters.length) = some 1)⟩
theorem lk_X10_115 : LKm RX10 115 m_X2_prime 0 := ⟨(gw_in 944 (by decide +kernel) (by decide +kernel) : Cond.methodLink RX10 115 yX2_prime ∈ gws), iw_X2, cw_X2_prime, (show "TurningSums$Field" ≠ _ by decide), (show "TurningSums$Field" ≠ _ by decide), (by decide +kernel : (parseMethodDescriptor yX2_prime.desc).map (fun d => d.parameters.length) = some 0)⟩
theorem lk_X10_120 : LKm RX10 120 m_X2_order 0 := ⟨(gw_in 945 (by decide +kernel) (by decide +kernel) : Cond.methodLink RX10 120 yX2_order ∈ gws), iw_X2, cw_X2_order, (show "TurningSums$Field" ≠ _ by decide), (show "TurningSums$Field" ≠ _ by decide), (by decide +kernel : (parseMethodDescriptor yX2_order.desc).map (fun d => d.parameters.length) = some 0)⟩
theorem cw_X2_root : Cond.code yX2_root cX2_root 1 (Option.some Jvm.ClassFile.FieldType.int) ∈ gws := gw_in 949 (by decide +kernel) (by decide +kernel)
theorem lk_X10_123 : LKm RX10 123 m_X2_root 0 := ⟨(gw_in 946 (by decide +kernel) (by decide +kernel) : Cond.methodLink RX10 123 yX2_root ∈ gws), iw_X2, cw_X2_root, (show "TurningSums$Field" ≠ _ by decide), (show "TurningSums$Field" ≠ _ by decide), (by decide +kernel : (parseMethodDescriptor yX2_root.desc).map (fun d => d.parameters.length) = some 0)⟩
theorem im_X2_root : Cond.instanceMethod yX2_root ∈ gws := gw_in 947 (by decide +kernel) (by decide +kernel)
theorem se_X2_root : Cond.selects RX2 yX2_root yX2_root ∈ gws := gw_in 948 (by decide +kernel) (by decide +kernel)
theorem lk_X10_126 : LKm RX10 126 m_X2_rowLength 0 := ⟨(gw_in 950 (by decide +kernel) (by decide +kernel) : Cond.methodLink RX10 126 yX2_rowLength ∈ gws), iw_X2, cw_X2_rowLength, (show "TurningSums$Field" ≠ _ by decide), (show "TurningSums$Field" ≠ _ by decide), (by decide +kernel : (parseMethodDescriptor yX2_rowLength.desc).map (fun d => d.parameters.length) = some 0)⟩
theorem cw_X2_hasUnit : Cond.code yX2_hasUnit cX2_hasUnit 2 (Option.some Jvm.ClassFile.FieldType.boolean) ∈ gws := gw_in 962 (by decide +kernel) (by decide +kernel)
theorem lk_X10_129 : LKm RX10 129 m_X2_hasUnit 1 := ⟨(gw_in 959 (by decide +kernel) (by decide +kernel) : Cond.methodLink RX10 129 yX2_hasUnit ∈ gws), iw_X2, cw_X2_hasUnit, (show "TurningSums$Field" ≠ _ by decide), (show "TurningSums$Field" ≠ _ by decide), (by decide +kernel : (parseMethodDescriptor yX2_hasUnit.desc).map (fun d => d.parameters.length) = some 1)⟩
theorem lk_X10_132 : LKm RX10 132 m_X2_logOf 1 := ⟨(gw_in 963 (by decide +kernel) (by decide +kernel) : Cond.methodLink RX10 132 yX2_logOf ∈ gws), iw_X2, cw_X2_logOf, (show "TurningSums$Field" ≠ _ by decide), (show "TurningSums$Field" ≠ _ by decide), (by decide +kernel : (parseMethodDescriptor yX2_logOf.desc).map (fun d => d.parameters.length) = some 1)⟩
theorem im_X2_hasUnit : Cond.instanceMethod yX2_hasUnit ∈ gws := gw_in 960 (by decide +kernel) (by decide +kernel)
theorem se_X2_hasUnit : Cond.selects RX2 yX2_hasUnit yX2_hasUnit ∈ gws := gw_in 961 (by decide +kernel) (by decide +kernel)
theorem cw_X2_hasCharacter : Cond.code yX2_hasCharacter cX2_hasCharacter 2 (Option.some Jvm.ClassFile.FieldType.boolean) ∈ gws := gw_in 974 (by decide +kernel) (by decide +kernel)
theorem lk_X10_135 : LKm RX10 135 m_X2_hasCharacter 1 := ⟨(gw_in 971 (by decide +kernel) (by decide +kernel) : Cond.methodLink RX10 135 yX2_hasCharacter ∈ gws), iw_X2, cw_X2_hasCharacter, (show "TurningSums$Field" ≠ _ by decide), (show "TurningSums$Field" ≠ _ by decide), (by decide +kernel : (parseMethodDescriptor yX2_hasCharacter.desc).map (fun d => d.parameters.length) = some 1)⟩
theorem cw_X2_hasNumber : Cond.code yX2_hasNumber cX2_hasNumber 2 (Option.some Jvm.ClassFile.FieldType.boolean) ∈ gws := gw_in 978 (by decide +kernel) (by decide +kernel)
theorem lk_X10_138 : LKm RX10 138 m_X2_hasNumber 1 := ⟨(gw_in 975 (by decide +kernel) (by decide +kernel) : Cond.methodLink RX10 138 yX2_hasNumber ∈ gws), iw_X2, cw_X2_hasNumber, (show "TurningSums$Field" ≠ _ by decide), (show "TurningSums$Field" ≠ _ by decide), (by decide +kernel : (parseMethodDescriptor yX2_hasNumber.desc).map (fun d => d.parameters.length) = some 1)⟩
theorem lk_X10_141 : LKm RX10 141 m_X2_characterAt 2 := ⟨(gw_in 979 (by decide +kernel) (by decide +kernel) : Cond.methodLink RX10 141 yX2_characterAt ∈ gws), iw_X2, cw_X2_characterAt, (show "TurningSums$Field" ≠ _ by decide), (show "TurningSums$Field" ≠ _ by decide), (by decide +kernel : (parseMethodDescriptor yX2_characterAt.desc).map (fun d => d.parameters.length) = some 2)⟩
theorem im_X2_hasNumber : Cond.instanceMethod yX2_hasNumber ∈ gws := gw_in 976 (by decide +kernel) (by decide +kernel)
theorem se_X2_hasNumber : Cond.selects RX2 yX2_hasNumber yX2_hasNumber ∈ gws := gw_in 977 (by decide +kernel) (by decide +kernel)
theorem im_X2_hasCharacter : Cond.instanceMethod yX2_hasCharacter ∈ gws := gw_in 972 (by decide +kernel) (by decide +kernel)
theorem se_X2_hasCharacter : Cond.selects RX2 yX2_hasCharacter yX2_hasCharacter ∈ gws := gw_in 973 (by decide +kernel) (by decide +kernel)
theorem cw_X10_hasSum : Cond.code yX10_hasSum cX10_hasSum 3 (Option.some Jvm.ClassFile.FieldType.boolean) ∈ gws := gw_in 986 (by decide +kernel) (by decide +kernel)
theorem lk_X10_144 : LKm RX10 144 m_X10_hasSum 3 := ⟨(gw_in 984 (by decide +kernel) (by decide +kernel) : Cond.methodLink RX10 144 yX10_hasSum ∈ gws), iw_X10, cw_X10_hasSum, (show "TurningSums" ≠ _ by decide), (show "TurningSums" ≠ _ by decide), (by decide +kernel : (parseMethodDescriptor yX10_hasSum.desc).map (fun d => d.parameters.length) = some 3)⟩
theorem lk_X10_148 : LKm RX10 148 m_X2_jacobiSum 4 := ⟨(gw_in 987 (by decide +kernel) (by decide +kernel) : Cond.methodLink RX10 148 yX2_jacobiSum ∈ gws), iw_X2, cw_X2_jacobiSum, (show "TurningSums$Field" ≠ _ by decide), (show "TurningSums$Field" ≠ _ by decide), (by decide +kernel : (parseMethodDescriptor yX2_jacobiSum.desc).map (fun d => d.parameters.length) = some 4)⟩
theorem lk_X10_152 : LKm RX10 152 m_X6_at 2 := ⟨(gw_in 988 (by decide +kernel) (by decide +kernel) : Cond.methodLink RX10 152 yX6_at ∈ gws), iw_X6, cw_X6_at, (show "TurningSums$Rows" ≠ _ by decide), (show "TurningSums$Rows" ≠ _ by decide), (by decide +kernel : (parseMethodDescriptor yX6_at.desc).map (fun d => d.parameters.length) = some 2)⟩
theorem sw_X10_hasSum : Cond.static yX10_hasSum ∈ gws := gw_in 985 (by decide +kernel) (by decide +kernel)
theorem lk_X10_158 : LKm RX10 158 m_X5_turnRow 4 := ⟨(gw_in 993 (by decide +kernel) (by decide +kernel) : Cond.methodLink RX10 158 yX5_turnRow ∈ gws), iw_X5, cw_X5_turnRow, (show "TurningSums$Ring" ≠ _ by decide), (show "TurningSums$Ring" ≠ _ by decide), (by decide +kernel : (parseMethodDescriptor yX5_turnRow.desc).map (fun d => d.parameters.length) = some 4)⟩
theorem lk_X10_162 : LKm RX10 162 m_X5_multiply 4 := ⟨(gw_in 994 (by decide +kernel) (by decide +kernel) : Cond.methodLink RX10 162 yX5_multiply ∈ gws), iw_X5, cw_X5_multiply, (show "TurningSums$Ring" ≠ _ by decide), (show "TurningSums$Ring" ≠ _ by decide), (by decide +kernel : (parseMethodDescriptor yX5_multiply.desc).map (fun d => d.parameters.length) = some 4)⟩
theorem cw_X6_isWhole : Cond.code yX6_isWhole cX6_isWhole 2 (Option.some Jvm.ClassFile.FieldType.boolean) ∈ gws := gw_in 997 (by decide +kernel) (by decide +kernel)
theorem lk_X10_166 : LKm RX10 166 m_X6_isWhole 1 := ⟨(gw_in 995 (by decide +kernel) (by decide +kernel) : Cond.methodLink RX10 166 yX6_isWhole ∈ gws), iw_X6, cw_X6_isWhole, (show "TurningSums$Rows" ≠ _ by decide), (show "TurningSums$Rows" ≠ _ by decide), (by decide +kernel : (parseMethodDescriptor yX6_isWhole.desc).map (fun d => d.parameters.length) = some 1)⟩
theorem sw_X6_isWhole : Cond.static yX6_isWhole ∈ gws := gw_in 996 (by decide +kernel) (by decide +kernel)
theorem lk_X10_170 : LKm RX10 170 m_X6_mod 2 := ⟨(gw_in 1002 (by decide +kernel) (by decide +kernel) : Cond.methodLink RX10 170 yX6_mod ∈ gws), iw_X6, cw_X6_mod, (show "TurningSums$Rows" ≠ _ by decide), (show "TurningSums$Rows" ≠ _ by decide), (by decide +kernel : (parseMethodDescriptor yX6_mod.desc).map (fun d => d.parameters.length) = some 2)⟩
theorem cw_X6_same : Cond.code yX6_same cX6_same 3 (Option.some Jvm.ClassFile.FieldType.boolean) ∈ gws := gw_in 1005 (by decide +kernel) (by decide +kernel)
theorem lk_X10_174 : LKm RX10 174 m_X6_same 2 := ⟨(gw_in 1003 (by decide +kernel) (by decide +kernel) : Cond.methodLink RX10 174 yX6_same ∈ gws), iw_X6, cw_X6_same, (show "TurningSums$Rows" ≠ _ by decide), (show "TurningSums$Rows" ≠ _ by decide), (by decide +kernel : (parseMethodDescriptor yX6_same.desc).map (fun d => d.parameters.length) = some 2)⟩
theorem sw_X6_same : Cond.static yX6_same ∈ gws := gw_in 1004 (by decide +kernel) (by decide +kernel)
theorem lk_X10_178 : LKm RX10 178 m_X2_hasTurn 1 := ⟨(gw_in 1010 (by decide +kernel) (by decide +kernel) : Cond.methodLink RX10 178 yX2_hasTurn ∈ gws), iw_X2, cw_X2_hasTurn, (show "TurningSums$Field" ≠ _ by decide), (show "TurningSums$Field" ≠ _ by decide), (by decide +kernel : (parseMethodDescriptor yX2_hasTurn.desc).map (fun d => d.parameters.length) = some 1)⟩
theorem cw_X2_partOf : Cond.code yX2_partOf cX2_partOf 9 (Option.some Jvm.ClassFile.FieldType.int) ∈ gws := gw_in 1014 (by decide +kernel) (by decide +kernel)
theorem lk_X10_181 : LKm RX10 181 m_X2_partOf 2 := ⟨(gw_in 1011 (by decide +kernel) (by decide +kernel) : Cond.methodLink RX10 181 yX2_partOf ∈ gws), iw_X2, cw_X2_partOf, (show "TurningSums$Field" ≠ _ by decide), (show "TurningSums$Field" ≠ _ by decide), (by decide +kernel : (parseMethodDescriptor yX2_partOf.desc).map (fun d => d.parameters.length) = some 2)⟩
theorem im_X2_partOf : Cond.instanceMethod yX2_partOf ∈ gws := gw_in 1012 (by decide +kernel) (by decide +kernel)
theorem se_X2_partOf : Cond.selects RX2 yX2_partOf yX2_partOf ∈ gws := gw_in 1013 (by decide +kernel) (by decide +kernel)
theorem lk_X10_185 : LKm RX10 185 m_X0_letFieldAt 1 := ⟨(gw_in 1029 (by decide +kernel) (by decide +kernel) : Cond.methodLink RX10 185 yX0_letFieldAt ∈ gws), iw_X0, cw_X0_letFieldAt, (show "TurningSums$Book" ≠ _ by decide), (show "TurningSums$Book" ≠ _ by decide), (by decide +kernel : (parseMethodDescriptor yX0_letFieldAt.desc).map (fun d => d.parameters.length) = some 1)⟩
theorem ki_X10_188 : Cond.constant RX10 188 (-1000000000 : Int32) ∈ gws := gw_in 1030 (by decide +kernel) (by decide +kernel)
theorem lk_X10_189 : LKm RX10 189 m_X0_letRowAt 1 := ⟨(gw_in 1031 (by decide +kernel) (by decide +kernel) : Cond.methodLink RX10 189 yX0_letRowAt ∈ gws), iw_X0, cw_X0_letRowAt, (show "TurningSums$Book" ≠ _ by decide), (show "TurningSums$Book" ≠ _ by decide), (by decide +kernel : (parseMethodDescriptor yX0_letRowAt.desc).map (fun d => d.parameters.length) = some 1)⟩
theorem cw_X0_equationAt : Cond.code yX0_equationAt cX0_equationAt 2 (Option.some (Jvm.ClassFile.FieldType.object "TurningSums$Equation")) ∈ gws := gw_in 1051 (by decide +kernel) (by decide +kernel)
theorem lk_X10_193 : LKm RX10 193 m_X0_equationAt 1 := ⟨(gw_in 1048 (by decide +kernel) (by decide +kernel) : Cond.methodLink RX10 193 yX0_equationAt ∈ gws), iw_X0, cw_X0_equationAt, (show "TurningSums$Book" ≠ _ by decide), (show "TurningSums$Book" ≠ _ by decide), (by decide +kernel : (parseMethodDescriptor yX0_equationAt.desc).map (fun d => d.parameters.length) = some 1)⟩
theorem cw_X1_result : Cond.code yX1_result cX1_result 1 (Option.some Jvm.ClassFile.FieldType.int) ∈ gws := gw_in 1055 (by decide +kernel) (by decide +kernel)
theorem lk_X10_197 : LKm RX10 197 m_X1_result 0 := ⟨(gw_in 1052 (by decide +kernel) (by decide +kernel) : Cond.methodLink RX10 197 yX1_result ∈ gws), iw_X1, cw_X1_result, (show "TurningSums$Equation" ≠ _ by decide), (show "TurningSums$Equation" ≠ _ by decide), (by decide +kernel : (parseMethodDescriptor yX1_result.desc).map (fun d => d.parameters.length) = some 0)⟩
theorem cw_X1_ways : Cond.code yX1_ways cX1_ways 5 (Option.some Jvm.ClassFile.FieldType.int) ∈ gws := gw_in 1059 (by decide +kernel) (by decide +kernel)
theorem lk_X10_202 : LKm RX10 202 m_X1_ways 1 := ⟨(gw_in 1056 (by decide +kernel) (by decide +kernel) : Cond.methodLink RX10 202 yX1_ways ∈ gws), iw_X1, cw_X1_ways, (show "TurningSums$Equation" ≠ _ by decide), (show "TurningSums$Equation" ≠ _ by decide), (by decide +kernel : (parseMethodDescriptor yX1_ways.desc).map (fun d => d.parameters.length) = some 1)⟩
theorem im_X1_ways : Cond.instanceMethod yX1_ways ∈ gws := gw_in 1057 (by decide +kernel) (by decide +kernel)
theorem se_X1_ways : Cond.selects RX1 yX1_ways yX1_ways ∈ gws := gw_in 1058 (by decide +kernel) (by decide +kernel)
theorem im_X1_result : Cond.instanceMethod yX1_result ∈ gws := gw_in 1053 (by decide +kernel) (by decide +kernel)
theorem se_X1_result : Cond.selects RX1 yX1_result yX1_result ∈ gws := gw_in 1054 (by decide +kernel) (by decide +kernel)
theorem im_X0_equationAt : Cond.instanceMethod yX0_equationAt ∈ gws := gw_in 1049 (by decide +kernel) (by decide +kernel)
theorem se_X0_equationAt : Cond.selects RX0 yX0_equationAt yX0_equationAt ∈ gws := gw_in 1050 (by decide +kernel) (by decide +kernel)
theorem lk_X10_205 : LKm RX10 205 m_X1_prime 0 := ⟨(gw_in 1078 (by decide +kernel) (by decide +kernel) : Cond.methodLink RX10 205 yX1_prime ∈ gws), iw_X1, cw_X1_prime, (show "TurningSums$Equation" ≠ _ by decide), (show "TurningSums$Equation" ≠ _ by decide), (by decide +kernel : (parseMethodDescriptor yX1_prime.desc).map (fun d => d.parameters.length) = some 0)⟩
theorem cw_X2_pointsOfCurve : Cond.code yX2_pointsOfCurve cX2_pointsOfCurve 9 (Option.some Jvm.ClassFile.FieldType.long) ∈ gws := gw_in 1086 (by decide +kernel) (by decide +kernel)
theorem lk_X10_206 : LKm RX10 206 m_X2_pointsOfCurve 4 := ⟨(gw_in 1083 (by decide +kernel) (by decide +kernel) : Cond.methodLink RX10 206 yX2_pointsOfCurve ∈ gws), iw_X2, cw_X2_pointsOfCurve, (show "TurningSums$Field" ≠ _ by decide), (show "TurningSums$Field" ≠ _ by decide), (by decide +kernel : (parseMethodDescriptor yX2_pointsOfCurve.desc).map (fun d => d.parameters.length) = some 4)⟩
theorem im_X2_pointsOfCurve : Cond.instanceMethod yX2_pointsOfCurve ∈ gws := gw_in 1084 (by decide +kernel) (by decide +kernel)
theorem se_X2_pointsOfCurve : Cond.selects RX2 yX2_pointsOfCurve yX2_pointsOfCurve ∈ gws := gw_in 1085 (by decide +kernel) (by decide +kernel)
theorem lk_X10_210 : LKm RX10 210 m_X8_isOddPrime 1 := ⟨(gw_in 1102 (by decide +kernel) (by decide +kernel) : Cond.methodLink RX10 210 yX8_isOddPrime ∈ gws), iw_X8, cw_X8_isOddPrime, (show "TurningSums$Squares" ≠ _ by decide), (show "TurningSums$Squares" ≠ _ by decide), (by decide +kernel : (parseMethodDescriptor yX8_isOddPrime.desc).map (fun d => d.parameters.length) = some 1)⟩
theorem lk_X10_215 : LKm RX10 215 m_X8_signOf 2 := ⟨(gw_in 1103 (by decide +kernel) (by decide +kernel) : Cond.methodLink RX10 215 yX8_signOf ∈ gws), iw_X8, cw_X8_signOf, (show "TurningSums$Squares" ≠ _ by decide), (show "TurningSums$Squares" ≠ _ by decide), (by decide +kernel : (parseMethodDescriptor yX8_signOf.desc).map (fun d => d.parameters.length) = some 2)⟩
theorem cw_X8_leastForm : Cond.code yX8_leastForm cX8_leastForm 3 (Option.some Jvm.ClassFile.FieldType.int) ∈ gws := gw_in 1117 (by decide +kernel) (by decide +kernel)
theorem lk_X10_218 : LKm RX10 218 m_X8_leastForm 2 := ⟨(gw_in 1115 (by decide +kernel) (by decide +kernel) : Cond.methodLink RX10 218 yX8_leastForm ∈ gws), iw_X8, cw_X8_leastForm, (show "TurningSums$Squares" ≠ _ by decide), (show "TurningSums$Squares" ≠ _ by decide), (by decide +kernel : (parseMethodDescriptor yX8_leastForm.desc).map (fun d => d.parameters.length) = some 2)⟩
theorem sw_X8_leastForm : Cond.static yX8_leastForm ∈ gws := gw_in 1116 (by decide +kernel) (by decide +kernel)
theorem cw_X2_isPower : Cond.code yX2_isPower cX2_isPower 3 (Option.some Jvm.ClassFile.FieldType.boolean) ∈ gws := gw_in 1128 (by decide +kernel) (by decide +kernel)
theorem lk_X10_221 : LKm RX10 221 m_X2_isPower 2 := ⟨(gw_in 1125 (by decide +kernel) (by decide +kernel) : Cond.methodLink RX10 221 yX2_isPower ∈ gws), iw_X2, cw_X2_isPower, (show "TurningSums$Field" ≠ _ by decide), (show "TurningSums$Field" ≠ _ by decide), (by decide +kernel : (parseMethodDescriptor yX2_isPower.desc).map (fun d => d.parameters.length) = some 2)⟩
theorem im_X2_isPower : Cond.instanceMethod yX2_isPower ∈ gws := gw_in 1126 (by decide +kernel) (by decide +kernel)
theorem se_X2_isPower : Cond.selects RX2 yX2_isPower yX2_isPower ∈ gws := gw_in 1127 (by decide +kernel) (by decide +kernel)
theorem cw_X8_classBySums : Cond.code yX8_classBySums cX8_classBySums 3 (Option.some Jvm.ClassFile.FieldType.int) ∈ gws := gw_in 1136 (by decide +kernel) (by decide +kernel)
theorem lk_X10_225 : LKm RX10 225 m_X8_classBySums 1 := ⟨(gw_in 1134 (by decide +kernel) (by decide +kernel) : Cond.methodLink RX10 225 yX8_classBySums ∈ gws), iw_X8, cw_X8_classBySums, (show "TurningSums$Squares" ≠ _ by decide), (show "TurningSums$Squares" ≠ _ by decide), (by decide +kernel : (parseMethodDescriptor yX8_classBySums.desc).map (fun d => d.parameters.length) = some 1)⟩
theorem sw_X8_classBySums : Cond.static yX8_classBySums ∈ gws := gw_in 1135 (by decide +kernel) (by decide +kernel)
theorem cw_X8_classByForms : Cond.code yX8_classByForms cX8_classByForms 4 (Option.some Jvm.ClassFile.FieldType.int) ∈ gws := gw_in 1144 (by decide +kernel) (by decide +kernel)
theorem lk_X10_228 : LKm RX10 228 m_X8_classByForms 1 := ⟨(gw_in 1142 (by decide +kernel) (by decide +kernel) : Cond.methodLink RX10 228 yX8_classByForms ∈ gws), iw_X8, cw_X8_classByForms, (show "TurningSums$Squares" ≠ _ by decide), (show "TurningSums$Squares" ≠ _ by decide), (by decide +kernel : (parseMethodDescriptor yX8_classByForms.desc).map (fun d => d.parameters.length) = some 1)⟩
theorem sw_X8_classByForms : Cond.static yX8_classByForms ∈ gws := gw_in 1143 (by decide +kernel) (by decide +kernel)
theorem cw_X2_meetings : Cond.code yX2_meetings cX2_meetings 5 (Option.some Jvm.ClassFile.FieldType.int) ∈ gws := gw_in 1156 (by decide +kernel) (by decide +kernel)
theorem lk_X10_231 : LKm RX10 231 m_X2_meetings 2 := ⟨(gw_in 1153 (by decide +kernel) (by decide +kernel) : Cond.methodLink RX10 231 yX2_meetings ∈ gws), iw_X2, cw_X2_meetings, (show "TurningSums$Field" ≠ _ by decide), (show "TurningSums$Field" ≠ _ by decide), (by decide +kernel : (parseMethodDescriptor yX2_meetings.desc).map (fun d => d.parameters.length) = some 2)⟩
theorem im_X2_meetings : Cond.instanceMethod yX2_meetings ∈ gws := gw_in 1154 (by decide +kernel) (by decide +kernel)
theorem se_X2_meetings : Cond.selects RX2 yX2_meetings yX2_meetings ∈ gws := gw_in 1155 (by decide +kernel) (by decide +kernel)
theorem cw_X2_evenness : Cond.code yX2_evenness cX2_evenness 4 (Option.some Jvm.ClassFile.FieldType.int) ∈ gws := gw_in 1164 (by decide +kernel) (by decide +kernel)
theorem lk_X10_234 : LKm RX10 234 m_X2_evenness 0 := ⟨(gw_in 1161 (by decide +kernel) (by decide +kernel) : Cond.methodLink RX10 234 yX2_evenness ∈ gws), iw_X2, cw_X2_evenness, (show "TurningSums$Field" ≠ _ by decide), (show "TurningSums$Field" ≠ _ by decide), (by decide +kernel : (parseMethodDescriptor yX2_evenness.desc).map (fun d => d.parameters.length) = some 0)⟩
theorem im_X2_evenness : Cond.instanceMethod yX2_evenness ∈ gws := gw_in 1162 (by decide +kernel) (by decide +kernel)
theorem se_X2_evenness : Cond.selects RX2 yX2_evenness yX2_evenness ∈ gws := gw_in 1163 (by decide +kernel) (by decide +kernel)
theorem cw_X7_become : Cond.code yX7_become cX7_become 3 (Option.none : Option Jvm.ClassFile.FieldType) ∈ gws := gw_in 1176 (by decide +kernel) (by decide +kernel)
theorem lk_X10_237 : LKm RX10 237 m_X7_become 1 := ⟨(gw_in 1173 (by decide +kernel) (by decide +kernel) : Cond.methodLink RX10 237 yX7_become ∈ gws), iw_X7, cw_X7_become, (show "TurningSums$SignRow" ≠ _ by decide), (show "TurningSums$SignRow" ≠ _ by decide), (by decide +kernel : (parseMethodDescriptor yX7_become.desc).map (fun d => d.parameters.length) = some 1)⟩
theorem lk_X10_241 : LKm RX10 241 m_X7_echoAt 2 := ⟨(gw_in 1180 (by decide +kernel) (by decide +kernel) : Cond.methodLink RX10 241 yX7_echoAt ∈ gws), iw_X7, cw_X7_echoAt, (show "TurningSums$SignRow" ≠ _ by decide), (show "TurningSums$SignRow" ≠ _ by decide), (by decide +kernel : (parseMethodDescriptor yX7_echoAt.desc).map (fun d => d.parameters.length) = some 2)⟩
theorem im_X7_become : Cond.instanceMethod yX7_become ∈ gws := gw_in 1174 (by decide +kernel) (by decide +kernel)
theorem se_X7_become : Cond.selects RX7 yX7_become yX7_become ∈ gws := gw_in 1175 (by decide +kernel) (by decide +kernel)
theorem cw_X7_noiseAt : Cond.code yX7_noiseAt cX7_noiseAt 7 (Option.some Jvm.ClassFile.FieldType.long) ∈ gws := gw_in 1197 (by decide +kernel) (by decide +kernel)
theorem lk_X10_244 : LKm RX10 244 m_X7_noiseAt 1 := ⟨(gw_in 1194 (by decide +kernel) (by decide +kernel) : Cond.methodLink RX10 244 yX7_noiseAt ∈ gws), iw_X7, cw_X7_noiseAt, (show "TurningSums$SignRow" ≠ _ by decide), (show "TurningSums$SignRow" ≠ _ by decide), (by decide +kernel : (parseMethodDescriptor yX7_noiseAt.desc).map (fun d => d.parameters.length) = some 1)⟩
theorem im_X7_noiseAt : Cond.instanceMethod yX7_noiseAt ∈ gws := gw_in 1195 (by decide +kernel) (by decide +kernel)
theorem se_X7_noiseAt : Cond.selects RX7 yX7_noiseAt yX7_noiseAt ∈ gws := gw_in 1196 (by decide +kernel) (by decide +kernel)
theorem cw_X7_leastNoisy : Cond.code yX7_leastNoisy cX7_leastNoisy 7 (Option.some Jvm.ClassFile.FieldType.int) ∈ gws := gw_in 1206 (by decide +kernel) (by decide +kernel)
theorem lk_X10_248 : LKm RX10 248 m_X7_leastNoisy 0 := ⟨(gw_in 1203 (by decide +kernel) (by decide +kernel) : Cond.methodLink RX10 248 yX7_leastNoisy ∈ gws), iw_X7, cw_X7_leastNoisy, (show "TurningSums$SignRow" ≠ _ by decide), (show "TurningSums$SignRow" ≠ _ by decide), (by decide +kernel : (parseMethodDescriptor yX7_leastNoisy.desc).map (fun d => d.parameters.length) = some 0)⟩
theorem im_X7_leastNoisy : Cond.instanceMethod yX7_leastNoisy ∈ gws := gw_in 1204 (by decide +kernel) (by decide +kernel)
theorem se_X7_leastNoisy : Cond.selects RX7 yX7_leastNoisy yX7_leastNoisy ∈ gws := gw_in 1205 (by decide +kernel) (by decide +kernel)
theorem cw_X4_beginAct : Cond.code yX4_beginAct cX4_beginAct 2 (Option.none : Option Jvm.ClassFile.FieldType) ∈ gws := gw_in 1226 (by decide +kernel) (by decide +kernel)
theorem lk_X10_254 : LKm RX10 254 m_X4_beginAct 0 := ⟨(gw_in 1223 (by decide +kernel) (by decide +kernel) : Cond.methodLink RX10 254 yX4_beginAct ∈ gws), iw_X4, cw_X4_beginAct, (show "TurningSums$Registers" ≠ _ by decide), (show "TurningSums$Registers" ≠ _ by decide), (by decide +kernel : (parseMethodDescriptor yX4_beginAct.desc).map (fun d => d.parameters.length) = some 0)⟩
theorem lk_X10_257 : LKm RX10 257 m_X4_clearTo 1 := ⟨(gw_in 1233 (by decide +kernel) (by decide +kernel) : Cond.methodLink RX10 257 yX4_clearTo ∈ gws), iw_X4, cw_X4_clearTo, (show "TurningSums$Registers" ≠ _ by decide), (show "TurningSums$Registers" ≠ _ by decide), (by decide +kernel : (parseMethodDescriptor yX4_clearTo.desc).map (fun d => d.parameters.length) = some 1)⟩
theorem cw_X10_granted : Cond.code yX10_granted cX10_granted 1 (Option.some Jvm.ClassFile.FieldType.boolean) ∈ gws := gw_in 1237 (by decide +kernel) (by decide +kernel)
theorem lk_X10_260 : LKm RX10 260 m_X10_granted 0 := ⟨(gw_in 1234 (by decide +kernel) (by decide +kernel) : Cond.methodLink RX10 260 yX10_granted ∈ gws), iw_X10, cw_X10_granted, (show "TurningSums" ≠ _ by decide), (show "TurningSums" ≠ _ by decide), (by decide +kernel : (parseMethodDescriptor yX10_granted.desc).map (fun d => d.parameters.length) = some 0)⟩
theorem im_X10_granted : Cond.instanceMethod yX10_granted ∈ gws := gw_in 1236 (by decide +kernel) (by decide +kernel)
theorem se_X10_granted : Cond.selects RX10 yX10_granted yX10_granted ∈ gws := gw_in 36 (by decide +kernel) (by decide +kernel)
theorem im_X4_beginAct : Cond.instanceMethod yX4_beginAct ∈ gws := gw_in 1224 (by decide +kernel) (by decide +kernel)
theorem se_X4_beginAct : Cond.selects RX4 yX4_beginAct yX4_beginAct ∈ gws := gw_in 1225 (by decide +kernel) (by decide +kernel)
theorem cw_X10_denied : Cond.code yX10_denied cX10_denied 2 (Option.some Jvm.ClassFile.FieldType.boolean) ∈ gws := gw_in 1222 (by decide +kernel) (by decide +kernel)
theorem lk_X10_251 : LKm RX10 251 m_X10_denied 1 := ⟨(gw_in 1219 (by decide +kernel) (by decide +kernel) : Cond.methodLink RX10 251 yX10_denied ∈ gws), iw_X10, cw_X10_denied, (show "TurningSums" ≠ _ by decide), (show "TurningSums" ≠ _ by decide), (by decide +kernel : (parseMethodDescriptor yX10_denied.desc).map (fun d => d.parameters.length) = some 1)⟩
theorem im_X10_denied : Cond.instanceMethod yX10_denied ∈ gws := gw_in 1221 (by decide +kernel) (by decide +kernel)
theorem se_X10_denied : Cond.selects RX10 yX10_denied yX10_denied ∈ gws := gw_in 35 (by decide +kernel) (by decide +kernel)
theorem cw_X4_has : Cond.code yX4_has cX4_has 2 (Option.some Jvm.ClassFile.FieldType.boolean) ∈ gws := gw_in 1249 (by decide +kernel) (by decide +kernel)
theorem lk_X10_325 : LKm RX10 325 m_X4_has 1 := ⟨(gw_in 1246 (by decide +kernel) (by decide +kernel) : Cond.methodLink RX10 325 yX4_has ∈ gws), iw_X4, cw_X4_has, (show "TurningSums$Registers" ≠ _ by decide), (show "TurningSums$Registers" ≠ _ by decide), (by decide +kernel : (parseMethodDescriptor yX4_has.desc).map (fun d => d.parameters.length) = some 1)⟩
theorem cw_X4_fieldNow : Cond.code yX4_fieldNow cX4_fieldNow 1 (Option.some Jvm.ClassFile.FieldType.int) ∈ gws := gw_in 1253 (by decide +kernel) (by decide +kernel)
theorem lk_X10_271 : LKm RX10 271 m_X4_fieldNow 0 := ⟨(gw_in 1250 (by decide +kernel) (by decide +kernel) : Cond.methodLink RX10 271 yX4_fieldNow ∈ gws), iw_X4, cw_X4_fieldNow, (show "TurningSums$Registers" ≠ _ by decide), (show "TurningSums$Registers" ≠ _ by decide), (by decide +kernel : (parseMethodDescriptor yX4_fieldNow.desc).map (fun d => d.parameters.length) = some 0)⟩
theorem im_X4_fieldNow : Cond.instanceMethod yX4_fieldNow ∈ gws := gw_in 1251 (by decide +kernel) (by decide +kernel)
theorem se_X4_fieldNow : Cond.selects RX4 yX4_fieldNow yX4_fieldNow ∈ gws := gw_in 1252 (by decide +kernel) (by decide +kernel)
theorem im_X4_has : Cond.instanceMethod yX4_has ∈ gws := gw_in 1247 (by decide +kernel) (by decide +kernel)
theorem se_X4_has : Cond.selects RX4 yX4_has yX4_has ∈ gws := gw_in 1248 (by decide +kernel) (by decide +kernel)
theorem cw_X10_fieldOfRegister : Cond.code yX10_fieldOfRegister cX10_fieldOfRegister 2 (Option.some (Jvm.ClassFile.FieldType.object "TurningSums$Field")) ∈ gws := gw_in 1245 (by decide +kernel) (by decide +kernel)
theorem lk_X10_264 : LKm RX10 264 m_X10_fieldOfRegister 1 := ⟨(gw_in 1242 (by decide +kernel) (by decide +kernel) : Cond.methodLink RX10 264 yX10_fieldOfRegister ∈ gws), iw_X10, cw_X10_fieldOfRegister, (show "TurningSums" ≠ _ by decide), (show "TurningSums" ≠ _ by decide), (by decide +kernel : (parseMethodDescriptor yX10_fieldOfRegister.desc).map (fun d => d.parameters.length) = some 1)⟩
theorem cw_X4_copyOut : Cond.code yX4_copyOut cX4_copyOut 4 (Option.none : Option Jvm.ClassFile.FieldType) ∈ gws := gw_in 1257 (by decide +kernel) (by decide +kernel)
theorem lk_X10_267 : LKm RX10 267 m_X4_copyOut 2 := ⟨(gw_in 1254 (by decide +kernel) (by decide +kernel) : Cond.methodLink RX10 267 yX4_copyOut ∈ gws), iw_X4, cw_X4_copyOut, (show "TurningSums$Registers" ≠ _ by decide), (show "TurningSums$Registers" ≠ _ by decide), (by decide +kernel : (parseMethodDescriptor yX4_copyOut.desc).map (fun d => d.parameters.length) = some 2)⟩
theorem im_X4_copyOut : Cond.instanceMethod yX4_copyOut ∈ gws := gw_in 1255 (by decide +kernel) (by decide +kernel)
theorem se_X4_copyOut : Cond.selects RX4 yX4_copyOut yX4_copyOut ∈ gws := gw_in 1256 (by decide +kernel) (by decide +kernel)
theorem im_X10_fieldOfRegister : Cond.instanceMethod yX10_fieldOfRegister ∈ gws := gw_in 1244 (by decide +kernel) (by decide +kernel)
theorem se_X10_fieldOfRegister : Cond.selects RX10 yX10_fieldOfRegister yX10_fieldOfRegister ∈ gws := gw_in 37 (by decide +kernel) (by decide +kernel)
theorem lk_X10_328 : LKm RX10 328 m_X6_isHuge 1 := ⟨(gw_in 1270 (by decide +kernel) (by decide +kernel) : Cond.methodLink RX10 328 yX6_isHuge ∈ gws), iw_X6, cw_X6_isHuge, (show "TurningSums$Rows" ≠ _ by decide), (show "TurningSums$Rows" ≠ _ by decide), (by decide +kernel : (parseMethodDescriptor yX6_isHuge.desc).map (fun d => d.parameters.length) = some 1)⟩
theorem cw_X4_copyIn : Cond.code yX4_copyIn cX4_copyIn 4 (Option.none : Option Jvm.ClassFile.FieldType) ∈ gws := gw_in 1274 (by decide +kernel) (by decide +kernel)
theorem lk_X10_331 : LKm RX10 331 m_X4_copyIn 2 := ⟨(gw_in 1271 (by decide +kernel) (by decide +kernel) : Cond.methodLink RX10 331 yX4_copyIn ∈ gws), iw_X4, cw_X4_copyIn, (show "TurningSums$Registers" ≠ _ by decide), (show "TurningSums$Registers" ≠ _ by decide), (by decide +kernel : (parseMethodDescriptor yX4_copyIn.desc).map (fun d => d.parameters.length) = some 2)⟩
theorem im_X4_copyIn : Cond.instanceMethod yX4_copyIn ∈ gws := gw_in 1272 (by decide +kernel) (by decide +kernel)
theorem se_X4_copyIn : Cond.selects RX4 yX4_copyIn yX4_copyIn ∈ gws := gw_in 1273 (by decide +kernel) (by decide +kernel)
theorem cw_X10_keep : Cond.code yX10_keep cX10_keep 3 (Option.some Jvm.ClassFile.FieldType.boolean) ∈ gws := gw_in 1269 (by decide +kernel) (by decide +kernel)
theorem lk_X10_274 : LKm RX10 274 m_X10_keep 2 := ⟨(gw_in 1266 (by decide +kernel) (by decide +kernel) : Cond.methodLink RX10 274 yX10_keep ∈ gws), iw_X10, cw_X10_keep, (show "TurningSums" ≠ _ by decide), (show "TurningSums" ≠ _ by decide), (by decide +kernel : (parseMethodDescriptor yX10_keep.desc).map (fun d => d.parameters.length) = some 2)⟩
theorem im_X10_keep : Cond.instanceMethod yX10_keep ∈ gws := gw_in 1268 (by decide +kernel) (by decide +kernel)
theorem se_X10_keep : Cond.selects RX10 yX10_keep yX10_keep ∈ gws := gw_in 39 (by decide +kernel) (by decide +kernel)
theorem lk_X10_278 : LKm RX10 278 m_X6_addTimes 3 := ⟨(gw_in 1283 (by decide +kernel) (by decide +kernel) : Cond.methodLink RX10 278 yX6_addTimes ∈ gws), iw_X6, cw_X6_addTimes, (show "TurningSums$Rows" ≠ _ by decide), (show "TurningSums$Rows" ≠ _ by decide), (by decide +kernel : (parseMethodDescriptor yX6_addTimes.desc).map (fun d => d.parameters.length) = some 3)⟩
theorem lk_X10_334 : LKm RX10 334 m_X6_setWhole 2 := ⟨(gw_in 1301 (by decide +kernel) (by decide +kernel) : Cond.methodLink RX10 334 yX6_setWhole ∈ gws), iw_X6, cw_X6_setWhole, (show "TurningSums$Rows" ≠ _ by decide), (show "TurningSums$Rows" ≠ _ by decide), (by decide +kernel : (parseMethodDescriptor yX6_setWhole.desc).map (fun d => d.parameters.length) = some 2)⟩
theorem cw_X10_multiplyTurns : Cond.code yX10_multiplyTurns cX10_multiplyTurns 4 (Option.some Jvm.ClassFile.FieldType.boolean) ∈ gws := gw_in 1300 (by decide +kernel) (by decide +kernel)
theorem lk_X10_284 : LKm RX10 284 m_X10_multiplyTurns 1 := ⟨(gw_in 1297 (by decide +kernel) (by decide +kernel) : Cond.methodLink RX10 284 yX10_multiplyTurns ∈ gws), iw_X10, cw_X10_multiplyTurns, (show "TurningSums" ≠ _ by decide), (show "TurningSums" ≠ _ by decide), (by decide +kernel : (parseMethodDescriptor yX10_multiplyTurns.desc).map (fun d => d.parameters.length) = some 1)⟩
theorem kj_X10_282 : Cond.constantLong RX10 282 (-9223372036854775808 : Int64) ∈ gws := gw_in 1296 (by decide +kernel) (by decide +kernel)
theorem im_X10_multiplyTurns : Cond.instanceMethod yX10_multiplyTurns ∈ gws := gw_in 1299 (by decide +kernel) (by decide +kernel)
theorem se_X10_multiplyTurns : Cond.selects RX10 yX10_multiplyTurns yX10_multiplyTurns ∈ gws := gw_in 40 (by decide +kernel) (by decide +kernel)
theorem cw_X4_stepBack : Cond.code yX4_stepBack cX4_stepBack 1 (Option.some Jvm.ClassFile.FieldType.boolean) ∈ gws := gw_in 1309 (by decide +kernel) (by decide +kernel)
theorem lk_X10_288 : LKm RX10 288 m_X4_stepBack 0 := ⟨(gw_in 1306 (by decide +kernel) (by decide +kernel) : Cond.methodLink RX10 288 yX4_stepBack ∈ gws), iw_X4, cw_X4_stepBack, (show "TurningSums$Registers" ≠ _ by decide), (show "TurningSums$Registers" ≠ _ by decide), (by decide +kernel : (parseMethodDescriptor yX4_stepBack.desc).map (fun d => d.parameters.length) = some 0)⟩
theorem im_X4_stepBack : Cond.instanceMethod yX4_stepBack ∈ gws := gw_in 1307 (by decide +kernel) (by decide +kernel)
theorem se_X4_stepBack : Cond.selects RX4 yX4_stepBack yX4_stepBack ∈ gws := gw_in 1308 (by decide +kernel) (by decide +kernel)
theorem cw_X4_stepOn : Cond.code yX4_stepOn cX4_stepOn 1 (Option.some Jvm.ClassFile.FieldType.boolean) ∈ gws := gw_in 1317 (by decide +kernel) (by decide +kernel)
theorem lk_X10_291 : LKm RX10 291 m_X4_stepOn 0 := ⟨(gw_in 1314 (by decide +kernel) (by decide +kernel) : Cond.methodLink RX10 291 yX4_stepOn ∈ gws), iw_X4, cw_X4_stepOn, (show "TurningSums$Registers" ≠ _ by decide), (show "TurningSums$Registers" ≠ _ by decide), (by decide +kernel : (parseMethodDescriptor yX4_stepOn.desc).map (fun d => d.parameters.length) = some 0)⟩
theorem im_X4_stepOn : Cond.instanceMethod yX4_stepOn ∈ gws := gw_in 1315 (by decide +kernel) (by decide +kernel)
theorem se_X4_stepOn : Cond.selects RX4 yX4_stepOn yX4_stepOn ∈ gws := gw_in 1316 (by decide +kernel) (by decide +kernel)
theorem cw_X4_imagesHeld : Cond.code yX4_imagesHeld cX4_imagesHeld 1 (Option.some Jvm.ClassFile.FieldType.int) ∈ gws := gw_in 1325 (by decide +kernel) (by decide +kernel)
theorem lk_X10_294 : LKm RX10 294 m_X4_imagesHeld 0 := ⟨(gw_in 1322 (by decide +kernel) (by decide +kernel) : Cond.methodLink RX10 294 yX4_imagesHeld ∈ gws), iw_X4, cw_X4_imagesHeld, (show "TurningSums$Registers" ≠ _ by decide), (show "TurningSums$Registers" ≠ _ by decide), (by decide +kernel : (parseMethodDescriptor yX4_imagesHeld.desc).map (fun d => d.parameters.length) = some 0)⟩
theorem cw_X4_keepImage : Cond.code yX4_keepImage cX4_keepImage 1 (Option.some Jvm.ClassFile.FieldType.boolean) ∈ gws := gw_in 1329 (by decide +kernel) (by decide +kernel)
theorem lk_X10_297 : LKm RX10 297 m_X4_keepImage 0 := ⟨(gw_in 1326 (by decide +kernel) (by decide +kernel) : Cond.methodLink RX10 297 yX4_keepImage ∈ gws), iw_X4, cw_X4_keepImage, (show "TurningSums$Registers" ≠ _ by decide), (show "TurningSums$Registers" ≠ _ by decide), (by decide +kernel : (parseMethodDescriptor yX4_keepImage.desc).map (fun d => d.parameters.length) = some 0)⟩
theorem im_X4_keepImage : Cond.instanceMethod yX4_keepImage ∈ gws := gw_in 1327 (by decide +kernel) (by decide +kernel)
theorem se_X4_keepImage : Cond.selects RX4 yX4_keepImage yX4_keepImage ∈ gws := gw_in 1328 (by decide +kernel) (by decide +kernel)
theorem im_X4_imagesHeld : Cond.instanceMethod yX4_imagesHeld ∈ gws := gw_in 1323 (by decide +kernel) (by decide +kernel)
theorem se_X4_imagesHeld : Cond.selects RX4 yX4_imagesHeld yX4_imagesHeld ∈ gws := gw_in 1324 (by decide +kernel) (by decide +kernel)
theorem cw_X4_bringBack : Cond.code yX4_bringBack cX4_bringBack 2 (Option.none : Option Jvm.ClassFile.FieldType) ∈ gws := gw_in 1337 (by decide +kernel) (by decide +kernel)
theorem lk_X10_300 : LKm RX10 300 m_X4_bringBack 1 := ⟨(gw_in 1334 (by decide +kernel) (by decide +kernel) : Cond.methodLink RX10 300 yX4_bringBack ∈ gws), iw_X4, cw_X4_bringBack, (show "TurningSums$Registers" ≠ _ by decide), (show "TurningSums$Registers" ≠ _ by decide), (by decide +kernel : (parseMethodDescriptor yX4_bringBack.desc).map (fun d => d.parameters.length) = some 1)⟩
theorem im_X4_bringBack : Cond.instanceMethod yX4_bringBack ∈ gws := gw_in 1335 (by decide +kernel) (by decide +kernel)
theorem se_X4_bringBack : Cond.selects RX4 yX4_bringBack yX4_bringBack ∈ gws := gw_in 1336 (by decide +kernel) (by decide +kernel)
theorem cw_X0_equationsHeld : Cond.code yX0_equationsHeld cX0_equationsHeld 1 (Option.some Jvm.ClassFile.FieldType.int) ∈ gws := gw_in 1345 (by decide +kernel) (by decide +kernel)
theorem lk_X10_313 : LKm RX10 313 m_X0_equationsHeld 0 := ⟨(gw_in 1342 (by decide +kernel) (by decide +kernel) : Cond.methodLink RX10 313 yX0_equationsHeld ∈ gws), iw_X0, cw_X0_equationsHeld, (show "TurningSums$Book" ≠ _ by decide), (show "TurningSums$Book" ≠ _ by decide), (by decide +kernel : (parseMethodDescriptor yX0_equationsHeld.desc).map (fun d => d.parameters.length) = some 0)⟩
theorem im_X0_equationsHeld : Cond.instanceMethod yX0_equationsHeld ∈ gws := gw_in 1343 (by decide +kernel) (by decide +kernel)
theorem se_X0_equationsHeld : Cond.selects RX0 yX0_equationsHeld yX0_equationsHeld ∈ gws := gw_in 1344 (by decide +kernel) (by decide +kernel)
theorem lk_X10_316 : LKm RX10 316 m_X0_letsHeld 0 := ⟨(gw_in 1346 (by decide +kernel) (by decide +kernel) : Cond.methodLink RX10 316 yX0_letsHeld ∈ gws), iw_X0, cw_X0_letsHeld, (show "TurningSums$Book" ≠ _ by decide), (show "TurningSums$Book" ≠ _ by decide), (by decide +kernel : (parseMethodDescriptor yX0_letsHeld.desc).map (fun d => d.parameters.length) = some 0)⟩
theorem cw_X4_actsToUndo : Cond.code yX4_actsToUndo cX4_actsToUndo 1 (Option.some Jvm.ClassFile.FieldType.int) ∈ gws := gw_in 1350 (by decide +kernel) (by decide +kernel)
theorem lk_X10_319 : LKm RX10 319 m_X4_actsToUndo 0 := ⟨(gw_in 1347 (by decide +kernel) (by decide +kernel) : Cond.methodLink RX10 319 yX4_actsToUndo ∈ gws), iw_X4, cw_X4_actsToUndo, (show "TurningSums$Registers" ≠ _ by decide), (show "TurningSums$Registers" ≠ _ by decide), (by decide +kernel : (parseMethodDescriptor yX4_actsToUndo.desc).map (fun d => d.parameters.length) = some 0)⟩
theorem im_X4_actsToUndo : Cond.instanceMethod yX4_actsToUndo ∈ gws := gw_in 1348 (by decide +kernel) (by decide +kernel)
theorem se_X4_actsToUndo : Cond.selects RX4 yX4_actsToUndo yX4_actsToUndo ∈ gws := gw_in 1349 (by decide +kernel) (by decide +kernel)
theorem cw_X4_actsToRedo : Cond.code yX4_actsToRedo cX4_actsToRedo 1 (Option.some Jvm.ClassFile.FieldType.int) ∈ gws := gw_in 1354 (by decide +kernel) (by decide +kernel)
theorem lk_X10_322 : LKm RX10 322 m_X4_actsToRedo 0 := ⟨(gw_in 1351 (by decide +kernel) (by decide +kernel) : Cond.methodLink RX10 322 yX4_actsToRedo ∈ gws), iw_X4, cw_X4_actsToRedo, (show "TurningSums$Registers" ≠ _ by decide), (show "TurningSums$Registers" ≠ _ by decide), (by decide +kernel : (parseMethodDescriptor yX4_actsToRedo.desc).map (fun d => d.parameters.length) = some 0)⟩
theorem im_X4_actsToRedo : Cond.instanceMethod yX4_actsToRedo ∈ gws := gw_in 1352 (by decide +kernel) (by decide +kernel)
theorem se_X4_actsToRedo : Cond.selects RX4 yX4_actsToRedo yX4_actsToRedo ∈ gws := gw_in 1353 (by decide +kernel) (by decide +kernel)
theorem cl_X11_9 : Cond.classLink RX11 9 RX12 ∈ gws := gw_in 1558 (by decide +kernel) (by decide +kernel)
theorem fkm_X11_11 : Cond.fieldLink RX11 11 (TX11 4).1 (TX11 4).2.1 (TX11 4).2.2.1 ∈ gws := gw_in 1565 (by decide +kernel) (by decide +kernel)
theorem fk_X11_11 : LK RX11 11 TX11 4 := Or.inl fkm_X11_11
theorem fkm_X11_17 : Cond.fieldLink RX11 17 (TX11 5).1 (TX11 5).2.1 (TX11 5).2.2.1 ∈ gws := gw_in 1567 (by decide +kernel) (by decide +kernel)
theorem fk_X11_17 : LK RX11 17 TX11 5 := Or.inl fkm_X11_17
theorem fkm_X11_21 : Cond.fieldLink RX11 21 (TX11 6).1 (TX11 6).2.1 (TX11 6).2.2.1 ∈ gws := gw_in 1569 (by decide +kernel) (by decide +kernel)
theorem fk_X11_21 : LK RX11 21 TX11 6 := Or.inl fkm_X11_21
theorem fkm_X11_24 : Cond.fieldLink RX11 24 (TX11 7).1 (TX11 7).2.1 (TX11 7).2.2.1 ∈ gws := gw_in 1571 (by decide +kernel) (by decide +kernel)
theorem fk_X11_24 : LK RX11 24 TX11 7 := Or.inl fkm_X11_24
theorem fkm_X11_27 : Cond.fieldLink RX11 27 (TX11 8).1 (TX11 8).2.1 (TX11 8).2.2.1 ∈ gws := gw_in 1573 (by decide +kernel) (by decide +kernel)
theorem fk_X11_27 : LK RX11 27 TX11 8 := Or.inl fkm_X11_27
theorem fkm_X11_30 : Cond.fieldLink RX11 30 (TX11 9).1 (TX11 9).2.1 (TX11 9).2.2.1 ∈ gws := gw_in 1575 (by decide +kernel) (by decide +kernel)
theorem fk_X11_30 : LK RX11 30 TX11 9 := Or.inl fkm_X11_30
theorem fkm_X11_33 : Cond.fieldLink RX11 33 (TX11 10).1 (TX11 10).2.1 (TX11 10).2.2.1 ∈ gws := gw_in 1577 (by decide +kernel) (by decide +kernel)
theorem fk_X11_33 : LK RX11 33 TX11 10 := Or.inl fkm_X11_33
theorem fkm_X11_36 : Cond.fieldLink RX11 36 (TX11 11).1 (TX11 11).2.1 (TX11 11).2.2.1 ∈ gws := gw_in 1579 (by decide +kernel) (by decide +kernel)
theorem fk_X11_36 : LK RX11 36 TX11 11 := Or.inl fkm_X11_36
theorem fkm_X11_40 : Cond.fieldLink RX11 40 (TX11 12).1 (TX11 12).2.1 (TX11 12).2.2.1 ∈ gws := gw_in 1581 (by decide +kernel) (by decide +kernel)
theorem fk_X11_40 : LK RX11 40 TX11 12 := Or.inl fkm_X11_40
theorem fkm_X11_43 : Cond.fieldLink RX11 43 (TX11 13).1 (TX11 13).2.1 (TX11 13).2.2.1 ∈ gws := gw_in 1583 (by decide +kernel) (by decide +kernel)
theorem fk_X11_43 : LK RX11 43 TX11 13 := Or.inl fkm_X11_43
theorem fkm_X11_46 : Cond.fieldLink RX11 46 (TX11 14).1 (TX11 14).2.1 (TX11 14).2.2.1 ∈ gws := gw_in 1585 (by decide +kernel) (by decide +kernel)
theorem fk_X11_46 : LK RX11 46 TX11 14 := Or.inl fkm_X11_46
theorem oi_X11_3 : Cond.methodLink RX11 3 Lib.objectInit ∈ gws := gw_in 1557 (by decide +kernel) (by decide +kernel)
theorem fkm_X11_49 : Cond.fieldLink RX11 49 (TX11 3).1 (TX11 3).2.1 (TX11 3).2.2.1 ∈ gws := gw_in 1563 (by decide +kernel) (by decide +kernel)
theorem fk_X11_49 : LK RX11 49 TX11 3 := Or.inl fkm_X11_49
theorem fkm_X12_19 : Cond.fieldLink RX12 19 (TX12 0).1 (TX12 0).2.1 (TX12 0).2.2.1 ∈ gws := gw_in 1725 (by decide +kernel) (by decide +kernel)
theorem fk_X12_19 : LK RX12 19 TX12 0 := Or.inl fkm_X12_19
theorem fkm_X12_15 : Cond.fieldLink RX12 15 (TX12 5).1 (TX12 5).2.1 (TX12 5).2.2.1 ∈ gws := gw_in 1735 (by decide +kernel) (by decide +kernel)
theorem fk_X12_15 : LK RX12 15 TX12 5 := Or.inl fkm_X12_15
theorem fkm_X12_23 : Cond.fieldLink RX12 23 (TX12 1).1 (TX12 1).2.1 (TX12 1).2.2.1 ∈ gws := gw_in 1727 (by decide +kernel) (by decide +kernel)
theorem fk_X12_23 : LK RX12 23 TX12 1 := Or.inl fkm_X12_23
theorem iw_X12 : Cond.initialized RX12 ∈ gws := gw_in 130 (by decide +kernel) (by decide +kernel)
theorem cw_X12_sign : Cond.code yX12_sign cX12_sign 4 (Option.some Jvm.ClassFile.FieldType.int) ∈ gws := gw_in 1724 (by decide +kernel) (by decide +kernel)
theorem lk_X12_43 : LKm RX12 43 m_X12_sign 1 := ⟨(gw_in 1722 (by decide +kernel) (by decide +kernel) : Cond.methodLink RX12 43 yX12_sign ∈ gws), iw_X12, cw_X12_sign, (show "TurningSumsModel$Field" ≠ _ by decide), (show "TurningSumsModel$Field" ≠ _ by decide), (by decide +kernel : (parseMethodDescriptor yX12_sign.desc).map (fun d => d.parameters.length) = some 1)⟩
theorem sw_X12_sign : Cond.static yX12_sign ∈ gws := gw_in 1723 (by decide +kernel) (by decide +kernel)
theorem fkm_X12_9 : Cond.fieldLink RX12 9 (TX12 4).1 (TX12 4).2.1 (TX12 4).2.2.1 ∈ gws := gw_in 1733 (by decide +kernel) (by decide +kernel)
theorem fk_X12_9 : LK RX12 9 TX12 4 := Or.inl fkm_X12_9
theorem cw_X12_isRoot : Cond.code yX12_isRoot cX12_isRoot 4 (Option.some Jvm.ClassFile.FieldType.boolean) ∈ gws := gw_in 1714 (by decide +kernel) (by decide +kernel)
theorem lk_X12_26 : LKm RX12 26 m_X12_isRoot 1 := ⟨(gw_in 1711 (by decide +kernel) (by decide +kernel) : Cond.methodLink RX12 26 yX12_isRoot ∈ gws), iw_X12, cw_X12_isRoot, (show "TurningSumsModel$Field" ≠ _ by decide), (show "TurningSumsModel$Field" ≠ _ by decide), (by decide +kernel : (parseMethodDescriptor yX12_isRoot.desc).map (fun d => d.parameters.length) = some 1)⟩
theorem fkm_X12_30 : Cond.fieldLink RX12 30 (TX12 2).1 (TX12 2).2.1 (TX12 2).2.2.1 ∈ gws := gw_in 1729 (by decide +kernel) (by decide +kernel)
theorem fk_X12_30 : LK RX12 30 TX12 2 := Or.inl fkm_X12_30
theorem fkm_X12_37 : Cond.fieldLink RX12 37 (TX12 3).1 (TX12 3).2.1 (TX12 3).2.2.1 ∈ gws := gw_in 1731 (by decide +kernel) (by decide +kernel)
theorem fk_X12_37 : LK RX12 37 TX12 3 := Or.inl fkm_X12_37
theorem cw_X12_lays : Cond.code yX12_lays cX12_lays 4 (Option.none : Option Jvm.ClassFile.FieldType) ∈ gws := gw_in 1721 (by decide +kernel) (by decide +kernel)
theorem lk_X12_40 : LKm RX12 40 m_X12_lays 0 := ⟨(gw_in 1718 (by decide +kernel) (by decide +kernel) : Cond.methodLink RX12 40 yX12_lays ∈ gws), iw_X12, cw_X12_lays, (show "TurningSumsModel$Field" ≠ _ by decide), (show "TurningSumsModel$Field" ≠ _ by decide), (by decide +kernel : (parseMethodDescriptor yX12_lays.desc).map (fun d => d.parameters.length) = some 0)⟩
theorem im_X12_lays : Cond.instanceMethod yX12_lays ∈ gws := gw_in 1720 (by decide +kernel) (by decide +kernel)
theorem se_X12_lays : Cond.selects RX12 yX12_lays yX12_lays ∈ gws := gw_in 57 (by decide +kernel) (by decide +kernel)
theorem iw_X13 : Cond.initialized RX13 ∈ gws := gw_in 125 (by decide +kernel) (by decide +kernel)
theorem cw_X13_divisor : Cond.code yX13_divisor cX13_divisor 5 (Option.some Jvm.ClassFile.FieldType.int) ∈ gws := gw_in 1717 (by decide +kernel) (by decide +kernel)
theorem lk_X12_33 : LKn RX12 33 m_X13_divisor 2 := ⟨"TurningSumsModel", by decide +kernel, iw_X13, cw_X13_divisor, (show "TurningSumsModel" ≠ _ by decide), (show "TurningSumsModel" ≠ _ by decide), (by decide +kernel : (parseMethodDescriptor yX13_divisor.desc).map (fun d => d.parameters.length) = some 2)⟩
theorem sw_X13_divisor : Cond.static yX13_divisor ∈ gws := gw_in 1716 (by decide +kernel) (by decide +kernel)
theorem im_X12_isRoot : Cond.instanceMethod yX12_isRoot ∈ gws := gw_in 1713 (by decide +kernel) (by decide +kernel)
theorem se_X12_isRoot : Cond.selects RX12 yX12_isRoot yX12_isRoot ∈ gws := gw_in 56 (by decide +kernel) (by decide +kernel)
theorem oi_X12_3 : Cond.methodLink RX12 3 Lib.objectInit ∈ gws := gw_in 1710 (by decide +kernel) (by decide +kernel)
theorem cw_X13_in : Cond.code yX13_in cX13_in 3 (Option.some Jvm.ClassFile.FieldType.boolean) ∈ gws := gw_in 1697 (by decide +kernel) (by decide +kernel)
theorem lk_X12_47 : LKn RX12 47 m_X13_in 3 := ⟨"TurningSumsModel", by decide +kernel, iw_X13, cw_X13_in, (show "TurningSumsModel" ≠ _ by decide), (show "TurningSumsModel" ≠ _ by decide), (by decide +kernel : (parseMethodDescriptor yX13_in.desc).map (fun d => d.parameters.length) = some 3)⟩
theorem sw_X13_in : Cond.static yX13_in ∈ gws := gw_in 1696 (by decide +kernel) (by decide +kernel)
theorem fkm_X13_9 : Cond.fieldLink RX13 9 (TX13 2).1 (TX13 2).2.1 (TX13 2).2.2.1 ∈ gws := gw_in 1444 (by decide +kernel) (by decide +kernel)
theorem fk_X13_9 : LK RX13 9 TX13 2 := Or.inl fkm_X13_9
theorem fkm_X13_13 : Cond.fieldLink RX13 13 (TX13 5).1 (TX13 5).2.1 (TX13 5).2.2.1 ∈ gws := gw_in 1447 (by decide +kernel) (by decide +kernel)
theorem fk_X13_13 : LK RX13 13 TX13 5 := Or.inl fkm_X13_13
theorem fkm_X13_17 : Cond.fieldLink RX13 17 (TX13 6).1 (TX13 6).2.1 (TX13 6).2.2.1 ∈ gws := gw_in 1448 (by decide +kernel) (by decide +kernel)
theorem fk_X13_17 : LK RX13 17 TX13 6 := Or.inl fkm_X13_17
theorem ac_byte : Cond.arrayClass (newarray.typeOf .byte) ∈ gws := gw_in 250 (by decide +kernel) (by decide +kernel)
theorem fkm_X13_20 : Cond.fieldLink RX13 20 (TX13 7).1 (TX13 7).2.1 (TX13 7).2.2.1 ∈ gws := gw_in 1449 (by decide +kernel) (by decide +kernel)
theorem fk_X13_20 : LK RX13 20 TX13 7 := Or.inl fkm_X13_20
theorem fkm_X13_24 : Cond.fieldLink RX13 24 (TX13 21).1 (TX13 21).2.1 (TX13 21).2.2.1 ∈ gws := gw_in 1463 (by decide +kernel) (by decide +kernel)
theorem fk_X13_24 : LK RX13 24 TX13 21 := Or.inl fkm_X13_24
theorem fkm_X13_28 : Cond.fieldLink RX13 28 (TX13 22).1 (TX13 22).2.1 (TX13 22).2.2.1 ∈ gws := gw_in 1464 (by decide +kernel) (by decide +kernel)
theorem fk_X13_28 : LK RX13 28 TX13 22 := Or.inl fkm_X13_28
theorem fkm_X13_31 : Cond.fieldLink RX13 31 (TX13 23).1 (TX13 23).2.1 (TX13 23).2.2.1 ∈ gws := gw_in 1465 (by decide +kernel) (by decide +kernel)
theorem fk_X13_31 : LK RX13 31 TX13 23 := Or.inl fkm_X13_31
theorem fkm_X13_34 : Cond.fieldLink RX13 34 (TX13 24).1 (TX13 24).2.1 (TX13 24).2.2.1 ∈ gws := gw_in 1466 (by decide +kernel) (by decide +kernel)
theorem fk_X13_34 : LK RX13 34 TX13 24 := Or.inl fkm_X13_34
theorem fkm_X13_37 : Cond.fieldLink RX13 37 (TX13 25).1 (TX13 25).2.1 (TX13 25).2.2.1 ∈ gws := gw_in 1467 (by decide +kernel) (by decide +kernel)
theorem fk_X13_37 : LK RX13 37 TX13 25 := Or.inl fkm_X13_37
theorem fkm_X13_40 : Cond.fieldLink RX13 40 (TX13 26).1 (TX13 26).2.1 (TX13 26).2.2.1 ∈ gws := gw_in 1468 (by decide +kernel) (by decide +kernel)
theorem fk_X13_40 : LK RX13 40 TX13 26 := Or.inl fkm_X13_40
theorem fkm_X13_43 : Cond.fieldLink RX13 43 (TX13 27).1 (TX13 27).2.1 (TX13 27).2.2.1 ∈ gws := gw_in 1469 (by decide +kernel) (by decide +kernel)
theorem fk_X13_43 : LK RX13 43 TX13 27 := Or.inl fkm_X13_43
theorem oi_X13_3 : Cond.methodLink RX13 3 Lib.objectInit ∈ gws := gw_in 1441 (by decide +kernel) (by decide +kernel)
theorem fkm_X13_46 : Cond.fieldLink RX13 46 (TX13 0).1 (TX13 0).2.1 (TX13 0).2.2.1 ∈ gws := gw_in 1442 (by decide +kernel) (by decide +kernel)
theorem fk_X13_46 : LK RX13 46 TX13 0 := Or.inl fkm_X13_46
theorem fkm_X13_49 : Cond.fieldLink RX13 49 (TX13 1).1 (TX13 1).2.1 (TX13 1).2.2.1 ∈ gws := gw_in 1443 (by decide +kernel) (by decide +kernel)
theorem fk_X13_49 : LK RX13 49 TX13 1 := Or.inl fkm_X13_49
theorem cw_X13_refused : Cond.code yX13_refused cX13_refused 2 (Option.some Jvm.ClassFile.FieldType.int) ∈ gws := gw_in 1551 (by decide +kernel) (by decide +kernel)
theorem lk_X13_52 : LKm RX13 52 m_X13_refused 1 := ⟨(gw_in 1548 (by decide +kernel) (by decide +kernel) : Cond.methodLink RX13 52 yX13_refused ∈ gws), iw_X13, cw_X13_refused, (show "TurningSumsModel" ≠ _ by decide), (show "TurningSumsModel" ≠ _ by decide), (by decide +kernel : (parseMethodDescriptor yX13_refused.desc).map (fun d => d.parameters.length) = some 1)⟩
theorem im_X13_refused : Cond.instanceMethod yX13_refused ∈ gws := gw_in 1550 (by decide +kernel) (by decide +kernel)
theorem se_X13_refused : Cond.selects RX13 yX13_refused yX13_refused ∈ gws := gw_in 42 (by decide +kernel) (by decide +kernel)
theorem cw_X13_good : Cond.code yX13_good cX13_good 2 (Option.some Jvm.ClassFile.FieldType.int) ∈ gws := gw_in 1860 (by decide +kernel) (by decide +kernel)
theorem lk_X13_56 : LKm RX13 56 m_X13_good 1 := ⟨(gw_in 1857 (by decide +kernel) (by decide +kernel) : Cond.methodLink RX13 56 yX13_good ∈ gws), iw_X13, cw_X13_good, (show "TurningSumsModel" ≠ _ by decide), (show "TurningSumsModel" ≠ _ by decide), (by decide +kernel : (parseMethodDescriptor yX13_good.desc).map (fun d => d.parameters.length) = some 1)⟩
theorem im_X13_good : Cond.instanceMethod yX13_good ∈ gws := gw_in 1859 (by decide +kernel) (by decide +kernel)
theorem se_X13_good : Cond.selects RX13 yX13_good yX13_good ∈ gws := gw_in 82 (by decide +kernel) (by decide +kernel)
theorem fk_X13_59 : LK RX13 59 TX12 1 := Or.inr ⟨"TurningSumsModel", by decide +kernel⟩
theorem fk_X13_64 : LK RX13 64 TX12 3 := Or.inr ⟨"TurningSumsModel", by decide +kernel⟩
theorem fk_X13_67 : LK RX13 67 TX12 5 := Or.inr ⟨"TurningSumsModel", by decide +kernel⟩
theorem cw_X13_clearWide : Cond.code yX13_clearWide cX13_clearWide 2 (Option.none : Option Jvm.ClassFile.FieldType) ∈ gws := gw_in 1809 (by decide +kernel) (by decide +kernel)
theorem lk_X13_70 : LKm RX13 70 m_X13_clearWide 0 := ⟨(gw_in 1806 (by decide +kernel) (by decide +kernel) : Cond.methodLink RX13 70 yX13_clearWide ∈ gws), iw_X13, cw_X13_clearWide, (show "TurningSumsModel" ≠ _ by decide), (show "TurningSumsModel" ≠ _ by decide), (by decide +kernel : (parseMethodDescriptor yX13_clearWide.desc).map (fun d => d.parameters.length) = some 0)⟩
theorem cw_X13_settles : Cond.code yX13_settles cX13_settles 9 (Option.none : Option Jvm.ClassFile.FieldType) ∈ gws := gw_in 1813 (by decide +kernel) (by decide +kernel)
theorem lk_X13_73 : LKm RX13 73 m_X13_settles 2 := ⟨(gw_in 1810 (by decide +kernel) (by decide +kernel) : Cond.methodLink RX13 73 yX13_settles ∈ gws), iw_X13, cw_X13_settles, (show "TurningSumsModel" ≠ _ by decide), (show "TurningSumsModel" ≠ _ by decide), (by decide +kernel : (parseMethodDescriptor yX13_settles.desc).map (fun d => d.parameters.length) = some 2)⟩
theorem im_X13_settles : Cond.instanceMethod yX13_settles ∈ gws := gw_in 1812 (by decide +kernel) (by decide +kernel)
theorem se_X13_settles : Cond.selects RX13 yX13_settles yX13_settles ∈ gws := gw_in 73 (by decide +kernel) (by decide +kernel)
theorem im_X13_clearWide : Cond.instanceMethod yX13_clearWide ∈ gws := gw_in 1808 (by decide +kernel) (by decide +kernel)
theorem se_X13_clearWide : Cond.selects RX13 yX13_clearWide yX13_clearWide ∈ gws := gw_in 72 (by decide +kernel) (by decide +kernel)
theorem kj_X13_77 : Cond.constantLong RX13 77 (100000000 : Int64) ∈ gws := gw_in 1822 (by decide +kernel) (by decide +kernel)
theorem kj_X13_79 : Cond.constantLong RX13 79 (-100000000 : Int64) ∈ gws := gw_in 1823 (by decide +kernel) (by decide +kernel)
theorem fk_X13_81 : LK RX13 81 TX12 0 := Or.inr ⟨"TurningSumsModel", by decide +kernel⟩
theorem fk_X13_84 : LK RX13 84 TX12 4 := Or.inr ⟨"TurningSumsModel", by decide +kernel⟩
theorem cw_X13_at : Cond.code yX13_at cX13_at 4 (Option.some Jvm.ClassFile.FieldType.int) ∈ gws := gw_in 1843 (by decide +kernel) (by decide +kernel)
theorem lk_X13_87 : LKm RX13 87 m_X13_at 3 := ⟨(gw_in 1841 (by decide +kernel) (by decide +kernel) : Cond.methodLink RX13 87 yX13_at ∈ gws), iw_X13, cw_X13_at, (show "TurningSumsModel" ≠ _ by decide), (show "TurningSumsModel" ≠ _ by decide), (by decide +kernel : (parseMethodDescriptor yX13_at.desc).map (fun d => d.parameters.length) = some 3)⟩
theorem sw_X13_at : Cond.static yX13_at ∈ gws := gw_in 1842 (by decide +kernel) (by decide +kernel)
theorem fk_X13_91 : LK RX13 91 TX12 2 := Or.inr ⟨"TurningSumsModel", by decide +kernel⟩
theorem cw_X13_raised : Cond.code yX13_raised cX13_raised 5 (Option.some Jvm.ClassFile.FieldType.int) ∈ gws := gw_in 1927 (by decide +kernel) (by decide +kernel)
theorem lk_X13_94 : LKm RX13 94 m_X13_raised 3 := ⟨(gw_in 1925 (by decide +kernel) (by decide +kernel) : Cond.methodLink RX13 94 yX13_raised ∈ gws), iw_X13, cw_X13_raised, (show "TurningSumsModel" ≠ _ by decide), (show "TurningSumsModel" ≠ _ by decide), (by decide +kernel : (parseMethodDescriptor yX13_raised.desc).map (fun d => d.parameters.length) = some 3)⟩
theorem sw_X13_raised : Cond.static yX13_raised ∈ gws := gw_in 1926 (by decide +kernel) (by decide +kernel)
theorem fkm_X13_98 : Cond.fieldLink RX13 98 (TX13 9).1 (TX13 9).2.1 (TX13 9).2.2.1 ∈ gws := gw_in 1451 (by decide +kernel) (by decide +kernel)
theorem fk_X13_98 : LK RX13 98 TX13 9 := Or.inl fkm_X13_98
theorem lk_X13_99 : LKm RX13 99 m_J0_length_8abf5 0 := ⟨(gw_in 1649 (by decide +kernel) (by decide +kernel) : Cond.methodLink RX13 99 yJ0_length_8abf5 ∈ gws), iw_J0, cw_J0_length_8abf5, (show "java/lang/String" ≠ _ by decide), (show "java/lang/String" ≠ _ by decide), (by decide +kernel : (parseMethodDescriptor yJ0_length_8abf5.desc).map (fun d => d.parameters.length) = some 0)⟩
theorem kj_X13_105 : Cond.constantLong RX13 105 (32 : Int64) ∈ gws := gw_in 1629 (by decide +kernel) (by decide +kernel)
theorem lk_X13_107 : LKm RX13 107 m_J0_charAt_5068e 1 := ⟨(gw_in 1650 (by decide +kernel) (by decide +kernel) : Cond.methodLink RX13 107 yJ0_charAt_5068e ∈ gws), iw_J0, cw_J0_charAt_5068e, (show "java/lang/String" ≠ _ by decide), (show "java/lang/String" ≠ _ by decide), (by decide +kernel : (parseMethodDescriptor yJ0_charAt_5068e.desc).map (fun d => d.parameters.length) = some 1)⟩
theorem fkm_X13_111 : Cond.fieldLink RX13 111 (TX13 11).1 (TX13 11).2.1 (TX13 11).2.2.1 ∈ gws := gw_in 1453 (by decide +kernel) (by decide +kernel)
theorem fk_X13_111 : LK RX13 111 TX13 11 := Or.inl fkm_X13_111
theorem fkm_X13_114 : Cond.fieldLink RX13 114 (TX13 10).1 (TX13 10).2.1 (TX13 10).2.2.1 ∈ gws := gw_in 1452 (by decide +kernel) (by decide +kernel)
theorem fk_X13_114 : LK RX13 114 TX13 10 := Or.inl fkm_X13_114
theorem cw_X13_byteAt : Cond.code yX13_byteAt cX13_byteAt 2 (Option.some Jvm.ClassFile.FieldType.int) ∈ gws := gw_in 1625 (by decide +kernel) (by decide +kernel)
theorem lk_X13_117 : LKm RX13 117 m_X13_byteAt 1 := ⟨(gw_in 1622 (by decide +kernel) (by decide +kernel) : Cond.methodLink RX13 117 yX13_byteAt ∈ gws), iw_X13, cw_X13_byteAt, (show "TurningSumsModel" ≠ _ by decide), (show "TurningSumsModel" ≠ _ by decide), (by decide +kernel : (parseMethodDescriptor yX13_byteAt.desc).map (fun d => d.parameters.length) = some 1)⟩
theorem fkm_X13_120 : Cond.fieldLink RX13 120 (TX13 12).1 (TX13 12).2.1 (TX13 12).2.2.1 ∈ gws := gw_in 1454 (by decide +kernel) (by decide +kernel)
theorem fk_X13_120 : LK RX13 120 TX13 12 := Or.inl fkm_X13_120
theorem fkm_X13_123 : Cond.fieldLink RX13 123 (TX13 13).1 (TX13 13).2.1 (TX13 13).2.2.1 ∈ gws := gw_in 1455 (by decide +kernel) (by decide +kernel)
theorem fk_X13_123 : LK RX13 123 TX13 13 := Or.inl fkm_X13_123
theorem cw_X13_isLetter : Cond.code yX13_isLetter cX13_isLetter 1 (Option.some Jvm.ClassFile.FieldType.boolean) ∈ gws := gw_in 1628 (by decide +kernel) (by decide +kernel)
theorem lk_X13_126 : LKm RX13 126 m_X13_isLetter 1 := ⟨(gw_in 1626 (by decide +kernel) (by decide +kernel) : Cond.methodLink RX13 126 yX13_isLetter ∈ gws), iw_X13, cw_X13_isLetter, (show "TurningSumsModel" ≠ _ by decide), (show "TurningSumsModel" ≠ _ by decide), (by decide +kernel : (parseMethodDescriptor yX13_isLetter.desc).map (fun d => d.parameters.length) = some 1)⟩
theorem cw_X13_isDigit : Cond.code yX13_isDigit cX13_isDigit 1 (Option.some Jvm.ClassFile.FieldType.boolean) ∈ gws := gw_in 1632 (by decide +kernel) (by decide +kernel)
theorem lk_X13_134 : LKm RX13 134 m_X13_isDigit 1 := ⟨(gw_in 1630 (by decide +kernel) (by decide +kernel) : Cond.methodLink RX13 134 yX13_isDigit ∈ gws), iw_X13, cw_X13_isDigit, (show "TurningSumsModel" ≠ _ by decide), (show "TurningSumsModel" ≠ _ by decide), (by decide +kernel : (parseMethodDescriptor yX13_isDigit.desc).map (fun d => d.parameters.length) = some 1)⟩
theorem fkm_X13_137 : Cond.fieldLink RX13 137 (TX13 14).1 (TX13 14).2.1 (TX13 14).2.2.1 ∈ gws := gw_in 1456 (by decide +kernel) (by decide +kernel)
theorem fk_X13_137 : LK RX13 137 TX13 14 := Or.inl fkm_X13_137
theorem im_X13_byteAt : Cond.instanceMethod yX13_byteAt ∈ gws := gw_in 1624 (by decide +kernel) (by decide +kernel)
theorem se_X13_byteAt : Cond.selects RX13 yX13_byteAt yX13_byteAt ∈ gws := gw_in 44 (by decide +kernel) (by decide +kernel)
theorem sw_X13_isDigit : Cond.static yX13_isDigit ∈ gws := gw_in 1631 (by decide +kernel) (by decide +kernel)
theorem fkm_X13_130 : Cond.fieldLink RX13 130 (TX13 17).1 (TX13 17).2.1 (TX13 17).2.2.1 ∈ gws := gw_in 1459 (by decide +kernel) (by decide +kernel)
theorem fk_X13_130 : LK RX13 130 TX13 17 := Or.inl fkm_X13_130
theorem sw_X13_isLetter : Cond.static yX13_isLetter ∈ gws := gw_in 1627 (by decide +kernel) (by decide +kernel)
theorem fkm_X13_144 : Cond.fieldLink RX13 144 (TX13 15).1 (TX13 15).2.1 (TX13 15).2.2.1 ∈ gws := gw_in 1457 (by decide +kernel) (by decide +kernel)
theorem fk_X13_144 : LK RX13 144 TX13 15 := Or.inl fkm_X13_144
theorem fkm_X13_147 : Cond.fieldLink RX13 147 (TX13 16).1 (TX13 16).2.1 (TX13 16).2.2.1 ∈ gws := gw_in 1458 (by decide +kernel) (by decide +kernel)
theorem fk_X13_147 : LK RX13 147 TX13 16 := Or.inl fkm_X13_147
theorem cw_X13_wrongThere : Cond.code yX13_wrongThere cX13_wrongThere 3 (Option.none : Option Jvm.ClassFile.FieldType) ∈ gws := gw_in 1666 (by decide +kernel) (by decide +kernel)
theorem lk_X13_140 : LKm RX13 140 m_X13_wrongThere 2 := ⟨(gw_in 1663 (by decide +kernel) (by decide +kernel) : Cond.methodLink RX13 140 yX13_wrongThere ∈ gws), iw_X13, cw_X13_wrongThere, (show "TurningSumsModel" ≠ _ by decide), (show "TurningSumsModel" ≠ _ by decide), (by decide +kernel : (parseMethodDescriptor yX13_wrongThere.desc).map (fun d => d.parameters.length) = some 2)⟩
theorem im_X13_wrongThere : Cond.instanceMethod yX13_wrongThere ∈ gws := gw_in 1665 (by decide +kernel) (by decide +kernel)
theorem se_X13_wrongThere : Cond.selects RX13 yX13_wrongThere yX13_wrongThere ∈ gws := gw_in 51 (by decide +kernel) (by decide +kernel)
theorem cw_X13_wordOf : Cond.code yX13_wordOf cX13_wordOf 4 (Option.some Jvm.ClassFile.FieldType.long) ∈ gws := gw_in 1648 (by decide +kernel) (by decide +kernel)
theorem lk_X13_150 : LKm RX13 150 m_X13_wordOf 1 := ⟨(gw_in 1646 (by decide +kernel) (by decide +kernel) : Cond.methodLink RX13 150 yX13_wordOf ∈ gws), iw_X13, cw_X13_wordOf, (show "TurningSumsModel" ≠ _ by decide), (show "TurningSumsModel" ≠ _ by decide), (by decide +kernel : (parseMethodDescriptor yX13_wordOf.desc).map (fun d => d.parameters.length) = some 1)⟩
theorem sw_X13_wordOf : Cond.static yX13_wordOf ∈ gws := gw_in 1647 (by decide +kernel) (by decide +kernel)
theorem cw_X13_isWord : Cond.code yX13_isWord cX13_isWord 2 (Option.some Jvm.ClassFile.FieldType.boolean) ∈ gws := gw_in 1645 (by decide +kernel) (by decide +kernel)
theorem lk_X13_154 : LKm RX13 154 m_X13_isWord 1 := ⟨(gw_in 1642 (by decide +kernel) (by decide +kernel) : Cond.methodLink RX13 154 yX13_isWord ∈ gws), iw_X13, cw_X13_isWord, (show "TurningSumsModel" ≠ _ by decide), (show "TurningSumsModel" ≠ _ by decide), (by decide +kernel : (parseMethodDescriptor yX13_isWord.desc).map (fun d => d.parameters.length) = some 1)⟩
theorem cw_X13_goesOn : Cond.code yX13_goesOn cX13_goesOn 3 (Option.none : Option Jvm.ClassFile.FieldType) ∈ gws := gw_in 1621 (by decide +kernel) (by decide +kernel)
theorem lk_X13_158 : LKm RX13 158 m_X13_goesOn 0 := ⟨(gw_in 1618 (by decide +kernel) (by decide +kernel) : Cond.methodLink RX13 158 yX13_goesOn ∈ gws), iw_X13, cw_X13_goesOn, (show "TurningSumsModel" ≠ _ by decide), (show "TurningSumsModel" ≠ _ by decide), (by decide +kernel : (parseMethodDescriptor yX13_goesOn.desc).map (fun d => d.parameters.length) = some 0)⟩
theorem im_X13_goesOn : Cond.instanceMethod yX13_goesOn ∈ gws := gw_in 1620 (by decide +kernel) (by decide +kernel)
theorem se_X13_goesOn : Cond.selects RX13 yX13_goesOn yX13_goesOn ∈ gws := gw_in 43 (by decide +kernel) (by decide +kernel)
theorem im_X13_isWord : Cond.instanceMethod yX13_isWord ∈ gws := gw_in 1644 (by decide +kernel) (by decide +kernel)
theorem se_X13_isWord : Cond.selects RX13 yX13_isWord yX13_isWord ∈ gws := gw_in 47 (by decide +kernel) (by decide +kernel)
theorem cw_X13_isSign : Cond.code yX13_isSign cX13_isSign 2 (Option.some Jvm.ClassFile.FieldType.boolean) ∈ gws := gw_in 1773 (by decide +kernel) (by decide +kernel)
theorem lk_X13_161 : LKm RX13 161 m_X13_isSign 1 := ⟨(gw_in 1770 (by decide +kernel) (by decide +kernel) : Cond.methodLink RX13 161 yX13_isSign ∈ gws), iw_X13, cw_X13_isSign, (show "TurningSumsModel" ≠ _ by decide), (show "TurningSumsModel" ≠ _ by decide), (by decide +kernel : (parseMethodDescriptor yX13_isSign.desc).map (fun d => d.parameters.length) = some 1)⟩
theorem im_X13_isSign : Cond.instanceMethod yX13_isSign ∈ gws := gw_in 1772 (by decide +kernel) (by decide +kernel)
theorem se_X13_isSign : Cond.selects RX13 yX13_isSign yX13_isSign ∈ gws := gw_in 63 (by decide +kernel) (by decide +kernel)
theorem cw_X13_wrong : Cond.code yX13_wrong cX13_wrong 2 (Option.none : Option Jvm.ClassFile.FieldType) ∈ gws := gw_in 1662 (by decide +kernel) (by decide +kernel)
theorem lk_X13_164 : LKm RX13 164 m_X13_wrong 1 := ⟨(gw_in 1659 (by decide +kernel) (by decide +kernel) : Cond.methodLink RX13 164 yX13_wrong ∈ gws), iw_X13, cw_X13_wrong, (show "TurningSumsModel" ≠ _ by decide), (show "TurningSumsModel" ≠ _ by decide), (by decide +kernel : (parseMethodDescriptor yX13_wrong.desc).map (fun d => d.parameters.length) = some 1)⟩
theorem im_X13_wrong : Cond.instanceMethod yX13_wrong ∈ gws := gw_in 1661 (by decide +kernel) (by decide +kernel)
theorem se_X13_wrong : Cond.selects RX13 yX13_wrong yX13_wrong ∈ gws := gw_in 50 (by decide +kernel) (by decide +kernel)
theorem lk_X13_168 : LKm RX13 168 m_X13_in 3 := ⟨(gw_in 1695 (by decide +kernel) (by decide +kernel) : Cond.methodLink RX13 168 yX13_in ∈ gws), iw_X13, cw_X13_in, (show "TurningSumsModel" ≠ _ by decide), (show "TurningSumsModel" ≠ _ by decide), (by decide +kernel : (parseMethodDescriptor yX13_in.desc).map (fun d => d.parameters.length) = some 3)⟩
theorem cw_X13_bounded : Cond.code yX13_bounded cX13_bounded 3 (Option.some Jvm.ClassFile.FieldType.int) ∈ gws := gw_in 1694 (by decide +kernel) (by decide +kernel)
theorem lk_X13_172 : LKm RX13 172 m_X13_bounded 2 := ⟨(gw_in 1691 (by decide +kernel) (by decide +kernel) : Cond.methodLink RX13 172 yX13_bounded ∈ gws), iw_X13, cw_X13_bounded, (show "TurningSumsModel" ≠ _ by decide), (show "TurningSumsModel" ≠ _ by decide), (by decide +kernel : (parseMethodDescriptor yX13_bounded.desc).map (fun d => d.parameters.length) = some 2)⟩
theorem im_X13_bounded : Cond.instanceMethod yX13_bounded ∈ gws := gw_in 1693 (by decide +kernel) (by decide +kernel)
theorem se_X13_bounded : Cond.selects RX13 yX13_bounded yX13_bounded ∈ gws := gw_in 54 (by decide +kernel) (by decide +kernel)
theorem cw_X13_isName : Cond.code yX13_isName cX13_isName 1 (Option.some Jvm.ClassFile.FieldType.boolean) ∈ gws := gw_in 1674 (by decide +kernel) (by decide +kernel)
theorem lk_X13_201 : LKm RX13 201 m_X13_isName 0 := ⟨(gw_in 1671 (by decide +kernel) (by decide +kernel) : Cond.methodLink RX13 201 yX13_isName ∈ gws), iw_X13, cw_X13_isName, (show "TurningSumsModel" ≠ _ by decide), (show "TurningSumsModel" ≠ _ by decide), (by decide +kernel : (parseMethodDescriptor yX13_isName.desc).map (fun d => d.parameters.length) = some 0)⟩
theorem fkm_X13_205 : Cond.fieldLink RX13 205 (TX13 4).1 (TX13 4).2.1 (TX13 4).2.2.1 ∈ gws := gw_in 1446 (by decide +kernel) (by decide +kernel)
theorem fk_X13_205 : LK RX13 205 TX13 4 := Or.inl fkm_X13_205
theorem iw_X11 : Cond.initialized RX11 ∈ gws := gw_in 129 (by decide +kernel) (by decide +kernel)
theorem cw_X11_find : Cond.code yX11_find cX11_find 4 (Option.some Jvm.ClassFile.FieldType.int) ∈ gws := gw_in 1690 (by decide +kernel) (by decide +kernel)
theorem lk_X13_209 : LKm RX13 209 m_X11_find 1 := ⟨(gw_in 1687 (by decide +kernel) (by decide +kernel) : Cond.methodLink RX13 209 yX11_find ∈ gws), iw_X11, cw_X11_find, (show "TurningSumsModel$Book" ≠ _ by decide), (show "TurningSumsModel$Book" ≠ _ by decide), (by decide +kernel : (parseMethodDescriptor yX11_find.desc).map (fun d => d.parameters.length) = some 1)⟩
theorem im_X11_find : Cond.instanceMethod yX11_find ∈ gws := gw_in 1688 (by decide +kernel) (by decide +kernel)
theorem se_X11_find : Cond.selects RX11 yX11_find yX11_find ∈ gws := gw_in 1689 (by decide +kernel) (by decide +kernel)
theorem im_X13_isName : Cond.instanceMethod yX13_isName ∈ gws := gw_in 1673 (by decide +kernel) (by decide +kernel)
theorem se_X13_isName : Cond.selects RX13 yX13_isName yX13_isName ∈ gws := gw_in 53 (by decide +kernel) (by decide +kernel)
theorem fk_X13_215 : LK RX13 215 TX11 12 := Or.inr ⟨"TurningSumsModel", by decide +kernel⟩
theorem fk_X13_218 : LK RX13 218 TX11 3 := Or.inr ⟨"TurningSumsModel", by decide +kernel⟩
theorem fk_X13_221 : LK RX13 221 TX11 13 := Or.inr ⟨"TurningSumsModel", by decide +kernel⟩
theorem fk_X13_224 : LK RX13 224 TX11 14 := Or.inr ⟨"TurningSumsModel", by decide +kernel⟩
theorem cw_X13_needs : Cond.code yX13_needs cX13_needs 2 (Option.none : Option Jvm.ClassFile.FieldType) ∈ gws := gw_in 1704 (by decide +kernel) (by decide +kernel)
theorem lk_X13_227 : LKm RX13 227 m_X13_needs 1 := ⟨(gw_in 1701 (by decide +kernel) (by decide +kernel) : Cond.methodLink RX13 227 yX13_needs ∈ gws), iw_X13, cw_X13_needs, (show "TurningSumsModel" ≠ _ by decide), (show "TurningSumsModel" ≠ _ by decide), (by decide +kernel : (parseMethodDescriptor yX13_needs.desc).map (fun d => d.parameters.length) = some 1)⟩
theorem im_X13_needs : Cond.instanceMethod yX13_needs ∈ gws := gw_in 1703 (by decide +kernel) (by decide +kernel)
theorem se_X13_needs : Cond.selects RX13 yX13_needs yX13_needs ∈ gws := gw_in 55 (by decide +kernel) (by decide +kernel)
theorem fk_X13_237 : LK RX13 237 TX11 0 := Or.inr ⟨"TurningSumsModel", by decide +kernel⟩
theorem cw_X13_begins : Cond.code yX13_begins cX13_begins 3 (Option.none : Option Jvm.ClassFile.FieldType) ∈ gws := gw_in 1658 (by decide +kernel) (by decide +kernel)
theorem lk_X13_249 : LKm RX13 249 m_X13_begins 2 := ⟨(gw_in 1655 (by decide +kernel) (by decide +kernel) : Cond.methodLink RX13 249 yX13_begins ∈ gws), iw_X13, cw_X13_begins, (show "TurningSumsModel" ≠ _ by decide), (show "TurningSumsModel" ≠ _ by decide), (by decide +kernel : (parseMethodDescriptor yX13_begins.desc).map (fun d => d.parameters.length) = some 2)⟩
theorem cw_X13_readFresh : Cond.code yX13_readFresh cX13_readFresh 3 (Option.some Jvm.ClassFile.FieldType.long) ∈ gws := gw_in 1670 (by decide +kernel) (by decide +kernel)
theorem lk_X13_252 : LKm RX13 252 m_X13_readFresh 0 := ⟨(gw_in 1667 (by decide +kernel) (by decide +kernel) : Cond.methodLink RX13 252 yX13_readFresh ∈ gws), iw_X13, cw_X13_readFresh, (show "TurningSumsModel" ≠ _ by decide), (show "TurningSumsModel" ≠ _ by decide), (by decide +kernel : (parseMethodDescriptor yX13_readFresh.desc).map (fun d => d.parameters.length) = some 0)⟩
theorem cw_X13_isPrime : Cond.code yX13_isPrime cX13_isPrime 2 (Option.some Jvm.ClassFile.FieldType.boolean) ∈ gws := gw_in 1700 (by decide +kernel) (by decide +kernel)
theorem lk_X13_256 : LKm RX13 256 m_X13_isPrime 1 := ⟨(gw_in 1698 (by decide +kernel) (by decide +kernel) : Cond.methodLink RX13 256 yX13_isPrime ∈ gws), iw_X13, cw_X13_isPrime, (show "TurningSumsModel" ≠ _ by decide), (show "TurningSumsModel" ≠ _ by decide), (by decide +kernel : (parseMethodDescriptor yX13_isPrime.desc).map (fun d => d.parameters.length) = some 1)⟩
theorem fk_X13_259 : LK RX13 259 TX11 4 := Or.inr ⟨"TurningSumsModel", by decide +kernel⟩
theorem nk_X13_60 : NK RX13 60 RX12 6 := ⟨gw_in 1705 (by decide +kernel) (by decide +kernel), gw_in 1706 (by decide +kernel) (by decide +kernel), iw_X12⟩
theorem cw_X12_init : Cond.code yX12_init cX12_init 7 (Option.none : Option Jvm.ClassFile.FieldType) ∈ gws := gw_in 1709 (by decide +kernel) (by decide +kernel)
theorem lk_X13_262 : LKm RX13 262 m_X12_init 2 := ⟨(gw_in 1707 (by decide +kernel) (by decide +kernel) : Cond.methodLink RX13 262 yX12_init ∈ gws), iw_X12, cw_X12_init, (show "TurningSumsModel$Field" ≠ _ by decide), (show "TurningSumsModel$Field" ≠ _ by decide), (by decide +kernel : (parseMethodDescriptor yX12_init.desc).map (fun d => d.parameters.length) = some 2)⟩
theorem cw_X13_names : Cond.code yX13_names cX13_names 5 (Option.none : Option Jvm.ClassFile.FieldType) ∈ gws := gw_in 1753 (by decide +kernel) (by decide +kernel)
theorem lk_X13_264 : LKm RX13 264 m_X13_names 3 := ⟨(gw_in 1750 (by decide +kernel) (by decide +kernel) : Cond.methodLink RX13 264 yX13_names ∈ gws), iw_X13, cw_X13_names, (show "TurningSumsModel" ≠ _ by decide), (show "TurningSumsModel" ≠ _ by decide), (by decide +kernel : (parseMethodDescriptor yX13_names.desc).map (fun d => d.parameters.length) = some 3)⟩
theorem im_X13_names : Cond.instanceMethod yX13_names ∈ gws := gw_in 1752 (by decide +kernel) (by decide +kernel)
theorem se_X13_names : Cond.selects RX13 yX13_names yX13_names ∈ gws := gw_in 58 (by decide +kernel) (by decide +kernel)
theorem im_X12_init : Cond.instanceMethod yX12_init ∈ gws := gw_in 1708 (by decide +kernel) (by decide +kernel)
theorem sw_X13_isPrime : Cond.static yX13_isPrime ∈ gws := gw_in 1699 (by decide +kernel) (by decide +kernel)
theorem im_X13_readFresh : Cond.instanceMethod yX13_readFresh ∈ gws := gw_in 1669 (by decide +kernel) (by decide +kernel)
theorem se_X13_readFresh : Cond.selects RX13 yX13_readFresh yX13_readFresh ∈ gws := gw_in 52 (by decide +kernel) (by decide +kernel)
theorem im_X13_begins : Cond.instanceMethod yX13_begins ∈ gws := gw_in 1657 (by decide +kernel) (by decide +kernel)
theorem se_X13_begins : Cond.selects RX13 yX13_begins yX13_begins ∈ gws := gw_in 49 (by decide +kernel) (by decide +kernel)
theorem fk_X13_267 : LK RX13 267 TX11 1 := Or.inr ⟨"TurningSumsModel", by decide +kernel⟩
theorem cw_X13_readField : Cond.code yX13_readField cX13_readField 3 (Option.some Jvm.ClassFile.FieldType.int) ∈ gws := gw_in 1761 (by decide +kernel) (by decide +kernel)
theorem lk_X13_270 : LKm RX13 270 m_X13_readField 0 := ⟨(gw_in 1758 (by decide +kernel) (by decide +kernel) : Cond.methodLink RX13 270 yX13_readField ∈ gws), iw_X13, cw_X13_readField, (show "TurningSumsModel" ≠ _ by decide), (show "TurningSumsModel" ≠ _ by decide), (by decide +kernel : (parseMethodDescriptor yX13_readField.desc).map (fun d => d.parameters.length) = some 0)⟩
theorem cw_X13_readWhole : Cond.code yX13_readWhole cX13_readWhole 4 (Option.some Jvm.ClassFile.FieldType.int) ∈ gws := gw_in 1765 (by decide +kernel) (by decide +kernel)
theorem lk_X13_273 : LKm RX13 273 m_X13_readWhole 2 := ⟨(gw_in 1762 (by decide +kernel) (by decide +kernel) : Cond.methodLink RX13 273 yX13_readWhole ∈ gws), iw_X13, cw_X13_readWhole, (show "TurningSumsModel" ≠ _ by decide), (show "TurningSumsModel" ≠ _ by decide), (by decide +kernel : (parseMethodDescriptor yX13_readWhole.desc).map (fun d => d.parameters.length) = some 2)⟩
theorem fk_X13_282 : LK RX13 282 TX11 5 := Or.inr ⟨"TurningSumsModel", by decide +kernel⟩
theorem fk_X13_285 : LK RX13 285 TX11 6 := Or.inr ⟨"TurningSumsModel", by decide +kernel⟩
theorem fk_X13_288 : LK RX13 288 TX11 7 := Or.inr ⟨"TurningSumsModel", by decide +kernel⟩
theorem im_X13_readWhole : Cond.instanceMethod yX13_readWhole ∈ gws := gw_in 1764 (by decide +kernel) (by decide +kernel)
theorem se_X13_readWhole : Cond.selects RX13 yX13_readWhole yX13_readWhole ∈ gws := gw_in 61 (by decide +kernel) (by decide +kernel)
theorem fk_X13_276 : LK RX13 276 TX11 8 := Or.inr ⟨"TurningSumsModel", by decide +kernel⟩
theorem fk_X13_279 : LK RX13 279 TX11 9 := Or.inr ⟨"TurningSumsModel", by decide +kernel⟩
theorem cw_X13_eatsSign : Cond.code yX13_eatsSign cX13_eatsSign 3 (Option.some Jvm.ClassFile.FieldType.boolean) ∈ gws := gw_in 1769 (by decide +kernel) (by decide +kernel)
theorem lk_X13_234 : LKm RX13 234 m_X13_eatsSign 1 := ⟨(gw_in 1766 (by decide +kernel) (by decide +kernel) : Cond.methodLink RX13 234 yX13_eatsSign ∈ gws), iw_X13, cw_X13_eatsSign, (show "TurningSumsModel" ≠ _ by decide), (show "TurningSumsModel" ≠ _ by decide), (by decide +kernel : (parseMethodDescriptor yX13_eatsSign.desc).map (fun d => d.parameters.length) = some 1)⟩
theorem im_X13_eatsSign : Cond.instanceMethod yX13_eatsSign ∈ gws := gw_in 1768 (by decide +kernel) (by decide +kernel)
theorem se_X13_eatsSign : Cond.selects RX13 yX13_eatsSign yX13_eatsSign ∈ gws := gw_in 62 (by decide +kernel) (by decide +kernel)
theorem im_X13_readField : Cond.instanceMethod yX13_readField ∈ gws := gw_in 1760 (by decide +kernel) (by decide +kernel)
theorem se_X13_readField : Cond.selects RX13 yX13_readField yX13_readField ∈ gws := gw_in 60 (by decide +kernel) (by decide +kernel)
theorem cw_X13_isHuge : Cond.code yX13_isHuge cX13_isHuge 3 (Option.some Jvm.ClassFile.FieldType.boolean) ∈ gws := gw_in 1821 (by decide +kernel) (by decide +kernel)
theorem lk_X13_290 : LKm RX13 290 m_X13_isHuge 1 := ⟨(gw_in 1818 (by decide +kernel) (by decide +kernel) : Cond.methodLink RX13 290 yX13_isHuge ∈ gws), iw_X13, cw_X13_isHuge, (show "TurningSumsModel" ≠ _ by decide), (show "TurningSumsModel" ≠ _ by decide), (by decide +kernel : (parseMethodDescriptor yX13_isHuge.desc).map (fun d => d.parameters.length) = some 1)⟩
theorem fkm_X13_293 : Cond.fieldLink RX13 293 (TX13 20).1 (TX13 20).2.1 (TX13 20).2.2.1 ∈ gws := gw_in 1462 (by decide +kernel) (by decide +kernel)
theorem fk_X13_293 : LK RX13 293 TX13 20 := Or.inl fkm_X13_293
theorem cw_X13_wholeRow : Cond.code yX13_wholeRow cX13_wholeRow 5 (Option.none : Option Jvm.ClassFile.FieldType) ∈ gws := gw_in 1827 (by decide +kernel) (by decide +kernel)
theorem lk_X13_297 : LKm RX13 297 m_X13_wholeRow 2 := ⟨(gw_in 1824 (by decide +kernel) (by decide +kernel) : Cond.methodLink RX13 297 yX13_wholeRow ∈ gws), iw_X13, cw_X13_wholeRow, (show "TurningSumsModel" ≠ _ by decide), (show "TurningSumsModel" ≠ _ by decide), (by decide +kernel : (parseMethodDescriptor yX13_wholeRow.desc).map (fun d => d.parameters.length) = some 2)⟩
theorem im_X13_wholeRow : Cond.instanceMethod yX13_wholeRow ∈ gws := gw_in 1826 (by decide +kernel) (by decide +kernel)
theorem se_X13_wholeRow : Cond.selects RX13 yX13_wholeRow yX13_wholeRow ∈ gws := gw_in 76 (by decide +kernel) (by decide +kernel)
theorem im_X13_isHuge : Cond.instanceMethod yX13_isHuge ∈ gws := gw_in 1820 (by decide +kernel) (by decide +kernel)
theorem se_X13_isHuge : Cond.selects RX13 yX13_isHuge yX13_isHuge ∈ gws := gw_in 75 (by decide +kernel) (by decide +kernel)
theorem fkm_X13_307 : Cond.fieldLink RX13 307 (TX13 19).1 (TX13 19).2.1 (TX13 19).2.2.1 ∈ gws := gw_in 1461 (by decide +kernel) (by decide +kernel)
theorem fk_X13_307 : LK RX13 307 TX13 19 := Or.inl fkm_X13_307
theorem fk_X13_314 : LK RX13 314 TX11 11 := Or.inr ⟨"TurningSumsModel", by decide +kernel⟩
theorem fk_X13_316 : LK RX13 316 TX11 10 := Or.inr ⟨"TurningSumsModel", by decide +kernel⟩
theorem cw_X13_readProduct : Cond.code yX13_readProduct cX13_readProduct 5 (Option.some Jvm.ClassFile.FieldType.int) ∈ gws := gw_in 1785 (by decide +kernel) (by decide +kernel)
theorem lk_X13_319 (d : Nat) : LKm RX13 319 (m_X13_readProduct d) 2 := ⟨(gw_in 1782 (by decide +kernel) (by decide +kernel) : Cond.methodLink RX13 319 yX13_readProduct ∈ gws), iw_X13, cw_X13_readProduct, (show "TurningSumsModel" ≠ _ by decide), (show "TurningSumsModel" ≠ _ by decide), (by decide +kernel : (parseMethodDescriptor yX13_readProduct.desc).map (fun d => d.parameters.length) = some 2)⟩
theorem kj_X13_322 : Cond.constantLong RX13 322 (-1 : Int64) ∈ gws := gw_in 1852 (by decide +kernel) (by decide +kernel)
theorem cw_X13_added : Cond.code yX13_added cX13_added 6 (Option.none : Option Jvm.ClassFile.FieldType) ∈ gws := gw_in 1856 (by decide +kernel) (by decide +kernel)
theorem lk_X13_324 : LKm RX13 324 m_X13_added 3 := ⟨(gw_in 1853 (by decide +kernel) (by decide +kernel) : Cond.methodLink RX13 324 yX13_added ∈ gws), iw_X13, cw_X13_added, (show "TurningSumsModel" ≠ _ by decide), (show "TurningSumsModel" ≠ _ by decide), (by decide +kernel : (parseMethodDescriptor yX13_added.desc).map (fun d => d.parameters.length) = some 3)⟩
theorem cw_X13_checks : Cond.code yX13_checks cX13_checks 2 (Option.none : Option Jvm.ClassFile.FieldType) ∈ gws := gw_in 1817 (by decide +kernel) (by decide +kernel)
theorem lk_X13_328 : LKm RX13 328 m_X13_checks 1 := ⟨(gw_in 1814 (by decide +kernel) (by decide +kernel) : Cond.methodLink RX13 328 yX13_checks ∈ gws), iw_X13, cw_X13_checks, (show "TurningSumsModel" ≠ _ by decide), (show "TurningSumsModel" ≠ _ by decide), (by decide +kernel : (parseMethodDescriptor yX13_checks.desc).map (fun d => d.parameters.length) = some 1)⟩
theorem fkm_X13_304 : Cond.fieldLink RX13 304 (TX13 18).1 (TX13 18).2.1 (TX13 18).2.2.1 ∈ gws := gw_in 1460 (by decide +kernel) (by decide +kernel)
theorem fk_X13_304 : LK RX13 304 TX13 18 := Or.inl fkm_X13_304
theorem im_X13_checks : Cond.instanceMethod yX13_checks ∈ gws := gw_in 1816 (by decide +kernel) (by decide +kernel)
theorem se_X13_checks : Cond.selects RX13 yX13_checks yX13_checks ∈ gws := gw_in 74 (by decide +kernel) (by decide +kernel)
theorem im_X13_added : Cond.instanceMethod yX13_added ∈ gws := gw_in 1855 (by decide +kernel) (by decide +kernel)
theorem se_X13_added : Cond.selects RX13 yX13_added yX13_added ∈ gws := gw_in 81 (by decide +kernel) (by decide +kernel)
theorem im_X13_readProduct : Cond.instanceMethod yX13_readProduct ∈ gws := gw_in 1784 (by decide +kernel) (by decide +kernel)
theorem se_X13_readProduct : Cond.selects RX13 yX13_readProduct yX13_readProduct ∈ gws := gw_in 66 (by decide +kernel) (by decide +kernel)
theorem cw_X13_readAtom : Cond.code yX13_readAtom cX13_readAtom 6 (Option.some Jvm.ClassFile.FieldType.int) ∈ gws := gw_in 1789 (by decide +kernel) (by decide +kernel)
theorem lk_X13_331 (d : Nat) : LKm RX13 331 (m_X13_readAtom d) 2 := ⟨(gw_in 1786 (by decide +kernel) (by decide +kernel) : Cond.methodLink RX13 331 yX13_readAtom ∈ gws), iw_X13, cw_X13_readAtom, (show "TurningSumsModel" ≠ _ by decide), (show "TurningSumsModel" ≠ _ by decide), (by decide +kernel : (parseMethodDescriptor yX13_readAtom.desc).map (fun d => d.parameters.length) = some 2)⟩
theorem cw_X13_multiply : Cond.code yX13_multiply cX13_multiply 7 (Option.none : Option Jvm.ClassFile.FieldType) ∈ gws := gw_in 1851 (by decide +kernel) (by decide +kernel)
theorem lk_X13_334 : LKm RX13 334 m_X13_multiply 4 := ⟨(gw_in 1848 (by decide +kernel) (by decide +kernel) : Cond.methodLink RX13 334 yX13_multiply ∈ gws), iw_X13, cw_X13_multiply, (show "TurningSumsModel" ≠ _ by decide), (show "TurningSumsModel" ≠ _ by decide), (by decide +kernel : (parseMethodDescriptor yX13_multiply.desc).map (fun d => d.parameters.length) = some 4)⟩
theorem im_X13_multiply : Cond.instanceMethod yX13_multiply ∈ gws := gw_in 1850 (by decide +kernel) (by decide +kernel)
theorem se_X13_multiply : Cond.selects RX13 yX13_multiply yX13_multiply ∈ gws := gw_in 80 (by decide +kernel) (by decide +kernel)
theorem im_X13_readAtom : Cond.instanceMethod yX13_readAtom ∈ gws := gw_in 1788 (by decide +kernel) (by decide +kernel)
theorem se_X13_readAtom : Cond.selects RX13 yX13_readAtom yX13_readAtom ∈ gws := gw_in 67 (by decide +kernel) (by decide +kernel)
theorem cw_X13_eatsWord : Cond.code yX13_eatsWord cX13_eatsWord 3 (Option.some Jvm.ClassFile.FieldType.boolean) ∈ gws := gw_in 1836 (by decide +kernel) (by decide +kernel)
theorem lk_X13_350 : LKm RX13 350 m_X13_eatsWord 1 := ⟨(gw_in 1833 (by decide +kernel) (by decide +kernel) : Cond.methodLink RX13 350 yX13_eatsWord ∈ gws), iw_X13, cw_X13_eatsWord, (show "TurningSumsModel" ≠ _ by decide), (show "TurningSumsModel" ≠ _ by decide), (by decide +kernel : (parseMethodDescriptor yX13_eatsWord.desc).map (fun d => d.parameters.length) = some 1)⟩
theorem cw_X13_readNamed : Cond.code yX13_readNamed cX13_readNamed 5 (Option.none : Option Jvm.ClassFile.FieldType) ∈ gws := gw_in 1847 (by decide +kernel) (by decide +kernel)
theorem lk_X13_356 : LKm RX13 356 m_X13_readNamed 2 := ⟨(gw_in 1844 (by decide +kernel) (by decide +kernel) : Cond.methodLink RX13 356 yX13_readNamed ∈ gws), iw_X13, cw_X13_readNamed, (show "TurningSumsModel" ≠ _ by decide), (show "TurningSumsModel" ≠ _ by decide), (by decide +kernel : (parseMethodDescriptor yX13_readNamed.desc).map (fun d => d.parameters.length) = some 2)⟩
theorem im_X13_readNamed : Cond.instanceMethod yX13_readNamed ∈ gws := gw_in 1846 (by decide +kernel) (by decide +kernel)
theorem se_X13_readNamed : Cond.selects RX13 yX13_readNamed yX13_readNamed ∈ gws := gw_in 79 (by decide +kernel) (by decide +kernel)
theorem cw_X13_needsSign : Cond.code yX13_needsSign cX13_needsSign 2 (Option.none : Option Jvm.ClassFile.FieldType) ∈ gws := gw_in 1797 (by decide +kernel) (by decide +kernel)
theorem lk_X13_341 : LKm RX13 341 m_X13_needsSign 1 := ⟨(gw_in 1794 (by decide +kernel) (by decide +kernel) : Cond.methodLink RX13 341 yX13_needsSign ∈ gws), iw_X13, cw_X13_needsSign, (show "TurningSumsModel" ≠ _ by decide), (show "TurningSumsModel" ≠ _ by decide), (by decide +kernel : (parseMethodDescriptor yX13_needsSign.desc).map (fun d => d.parameters.length) = some 1)⟩
theorem cw_X13_jacobiRow : Cond.code yX13_jacobiRow cX13_jacobiRow 8 (Option.none : Option Jvm.ClassFile.FieldType) ∈ gws := gw_in 1840 (by decide +kernel) (by decide +kernel)
theorem lk_X13_353 : LKm RX13 353 m_X13_jacobiRow 4 := ⟨(gw_in 1837 (by decide +kernel) (by decide +kernel) : Cond.methodLink RX13 353 yX13_jacobiRow ∈ gws), iw_X13, cw_X13_jacobiRow, (show "TurningSumsModel" ≠ _ by decide), (show "TurningSumsModel" ≠ _ by decide), (by decide +kernel : (parseMethodDescriptor yX13_jacobiRow.desc).map (fun d => d.parameters.length) = some 4)⟩
theorem im_X13_jacobiRow : Cond.instanceMethod yX13_jacobiRow ∈ gws := gw_in 1839 (by decide +kernel) (by decide +kernel)
theorem se_X13_jacobiRow : Cond.selects RX13 yX13_jacobiRow yX13_jacobiRow ∈ gws := gw_in 78 (by decide +kernel) (by decide +kernel)
theorem im_X13_needsSign : Cond.instanceMethod yX13_needsSign ∈ gws := gw_in 1796 (by decide +kernel) (by decide +kernel)
theorem se_X13_needsSign : Cond.selects RX13 yX13_needsSign yX13_needsSign ∈ gws := gw_in 69 (by decide +kernel) (by decide +kernel)
theorem im_X13_eatsWord : Cond.instanceMethod yX13_eatsWord ∈ gws := gw_in 1835 (by decide +kernel) (by decide +kernel)
theorem se_X13_eatsWord : Cond.selects RX13 yX13_eatsWord yX13_eatsWord ∈ gws := gw_in 77 (by decide +kernel) (by decide +kernel)
theorem cw_X13_deeper : Cond.code yX13_deeper cX13_deeper 1 (Option.none : Option Jvm.ClassFile.FieldType) ∈ gws := gw_in 1793 (by decide +kernel) (by decide +kernel)
theorem lk_X13_338 : LKm RX13 338 m_X13_deeper 0 := ⟨(gw_in 1790 (by decide +kernel) (by decide +kernel) : Cond.methodLink RX13 338 yX13_deeper ∈ gws), iw_X13, cw_X13_deeper, (show "TurningSumsModel" ≠ _ by decide), (show "TurningSumsModel" ≠ _ by decide), (by decide +kernel : (parseMethodDescriptor yX13_deeper.desc).map (fun d => d.parameters.length) = some 0)⟩
theorem cw_X12_isUnit : Cond.code yX12_isUnit cX12_isUnit 2 (Option.some Jvm.ClassFile.FieldType.boolean) ∈ gws := gw_in 1831 (by decide +kernel) (by decide +kernel)
theorem lk_X13_347 : LKm RX13 347 m_X12_isUnit 1 := ⟨(gw_in 1828 (by decide +kernel) (by decide +kernel) : Cond.methodLink RX13 347 yX12_isUnit ∈ gws), iw_X12, cw_X12_isUnit, (show "TurningSumsModel$Field" ≠ _ by decide), (show "TurningSumsModel$Field" ≠ _ by decide), (by decide +kernel : (parseMethodDescriptor yX12_isUnit.desc).map (fun d => d.parameters.length) = some 1)⟩
theorem cw_X13_turnsAtom : Cond.code yX13_turnsAtom cX13_turnsAtom 5 (Option.some Jvm.ClassFile.FieldType.int) ∈ gws := gw_in 1801 (by decide +kernel) (by decide +kernel)
theorem lk_X13_344 (d : Nat) : LKm RX13 344 (m_X13_turnsAtom d) 3 := ⟨(gw_in 1798 (by decide +kernel) (by decide +kernel) : Cond.methodLink RX13 344 yX13_turnsAtom ∈ gws), iw_X13, cw_X13_turnsAtom, (show "TurningSumsModel" ≠ _ by decide), (show "TurningSumsModel" ≠ _ by decide), (by decide +kernel : (parseMethodDescriptor yX13_turnsAtom.desc).map (fun d => d.parameters.length) = some 3)⟩
theorem im_X13_turnsAtom : Cond.instanceMethod yX13_turnsAtom ∈ gws := gw_in 1800 (by decide +kernel) (by decide +kernel)
theorem se_X13_turnsAtom : Cond.selects RX13 yX13_turnsAtom yX13_turnsAtom ∈ gws := gw_in 70 (by decide +kernel) (by decide +kernel)
theorem im_X12_isUnit : Cond.instanceMethod yX12_isUnit ∈ gws := gw_in 1829 (by decide +kernel) (by decide +kernel)
theorem se_X12_isUnit : Cond.selects RX12 yX12_isUnit yX12_isUnit ∈ gws := gw_in 1830 (by decide +kernel) (by decide +kernel)
theorem im_X13_deeper : Cond.instanceMethod yX13_deeper ∈ gws := gw_in 1792 (by decide +kernel) (by decide +kernel)
theorem se_X13_deeper : Cond.selects RX13 yX13_deeper yX13_deeper ∈ gws := gw_in 68 (by decide +kernel) (by decide +kernel)
theorem cw_X13_readSum : Cond.code yX13_readSum cX13_readSum 7 (Option.some Jvm.ClassFile.FieldType.int) ∈ gws := gw_in 1781 (by decide +kernel) (by decide +kernel)
theorem lk_X13_310 (d : Nat) : LKm RX13 310 (m_X13_readSum d) 2 := ⟨(gw_in 1778 (by decide +kernel) (by decide +kernel) : Cond.methodLink RX13 310 yX13_readSum ∈ gws), iw_X13, cw_X13_readSum, (show "TurningSumsModel" ≠ _ by decide), (show "TurningSumsModel" ≠ _ by decide), (by decide +kernel : (parseMethodDescriptor yX13_readSum.desc).map (fun d => d.parameters.length) = some 2)⟩
theorem im_X13_readSum : Cond.instanceMethod yX13_readSum ∈ gws := gw_in 1780 (by decide +kernel) (by decide +kernel)
theorem se_X13_readSum : Cond.selects RX13 yX13_readSum yX13_readSum ∈ gws := gw_in 65 (by decide +kernel) (by decide +kernel)
theorem cw_X13_turned : Cond.code yX13_turned cX13_turned 6 (Option.none : Option Jvm.ClassFile.FieldType) ∈ gws := gw_in 1805 (by decide +kernel) (by decide +kernel)
theorem lk_X13_359 : LKm RX13 359 m_X13_turned 4 := ⟨(gw_in 1802 (by decide +kernel) (by decide +kernel) : Cond.methodLink RX13 359 yX13_turned ∈ gws), iw_X13, cw_X13_turned, (show "TurningSumsModel" ≠ _ by decide), (show "TurningSumsModel" ≠ _ by decide), (by decide +kernel : (parseMethodDescriptor yX13_turned.desc).map (fun d => d.parameters.length) = some 4)⟩
theorem im_X13_turned : Cond.instanceMethod yX13_turned ∈ gws := gw_in 1804 (by decide +kernel) (by decide +kernel)
theorem se_X13_turned : Cond.selects RX13 yX13_turned yX13_turned ∈ gws := gw_in 71 (by decide +kernel) (by decide +kernel)
theorem fk_X13_301 : LK RX13 301 TX11 2 := Or.inr ⟨"TurningSumsModel", by decide +kernel⟩
theorem cw_X13_readLet : Cond.code yX13_readLet cX13_readLet 7 (Option.none : Option Jvm.ClassFile.FieldType) ∈ gws := gw_in 1777 (by decide +kernel) (by decide +kernel)
theorem lk_X13_246 : LKm RX13 246 m_X13_readLet 0 := ⟨(gw_in 1774 (by decide +kernel) (by decide +kernel) : Cond.methodLink RX13 246 yX13_readLet ∈ gws), iw_X13, cw_X13_readLet, (show "TurningSumsModel" ≠ _ by decide), (show "TurningSumsModel" ≠ _ by decide), (by decide +kernel : (parseMethodDescriptor yX13_readLet.desc).map (fun d => d.parameters.length) = some 0)⟩
theorem im_X13_readLet : Cond.instanceMethod yX13_readLet ∈ gws := gw_in 1776 (by decide +kernel) (by decide +kernel)
theorem se_X13_readLet : Cond.selects RX13 yX13_readLet yX13_readLet ∈ gws := gw_in 64 (by decide +kernel) (by decide +kernel)
theorem cw_X13_readEquation : Cond.code yX13_readEquation cX13_readEquation 10 (Option.none : Option Jvm.ClassFile.FieldType) ∈ gws := gw_in 1757 (by decide +kernel) (by decide +kernel)
theorem lk_X13_243 : LKm RX13 243 m_X13_readEquation 0 := ⟨(gw_in 1754 (by decide +kernel) (by decide +kernel) : Cond.methodLink RX13 243 yX13_readEquation ∈ gws), iw_X13, cw_X13_readEquation, (show "TurningSumsModel" ≠ _ by decide), (show "TurningSumsModel" ≠ _ by decide), (by decide +kernel : (parseMethodDescriptor yX13_readEquation.desc).map (fun d => d.parameters.length) = some 0)⟩
theorem im_X13_readEquation : Cond.instanceMethod yX13_readEquation ∈ gws := gw_in 1756 (by decide +kernel) (by decide +kernel)
theorem se_X13_readEquation : Cond.selects RX13 yX13_readEquation yX13_readEquation ∈ gws := gw_in 59 (by decide +kernel) (by decide +kernel)
theorem cw_X13_readFieldLine : Cond.code yX13_readFieldLine cX13_readFieldLine 5 (Option.none : Option Jvm.ClassFile.FieldType) ∈ gws := gw_in 1654 (by decide +kernel) (by decide +kernel)
theorem lk_X13_240 : LKm RX13 240 m_X13_readFieldLine 0 := ⟨(gw_in 1651 (by decide +kernel) (by decide +kernel) : Cond.methodLink RX13 240 yX13_readFieldLine ∈ gws), iw_X13, cw_X13_readFieldLine, (show "TurningSumsModel" ≠ _ by decide), (show "TurningSumsModel" ≠ _ by decide), (by decide +kernel : (parseMethodDescriptor yX13_readFieldLine.desc).map (fun d => d.parameters.length) = some 0)⟩
theorem im_X13_readFieldLine : Cond.instanceMethod yX13_readFieldLine ∈ gws := gw_in 1653 (by decide +kernel) (by decide +kernel)
theorem se_X13_readFieldLine : Cond.selects RX13 yX13_readFieldLine yX13_readFieldLine ∈ gws := gw_in 48 (by decide +kernel) (by decide +kernel)
theorem cw_X13_readLine : Cond.code yX13_readLine cX13_readLine 1 (Option.none : Option Jvm.ClassFile.FieldType) ∈ gws := gw_in 1640 (by decide +kernel) (by decide +kernel)
theorem lk_X13_231 : LKm RX13 231 m_X13_readLine 0 := ⟨(gw_in 1637 (by decide +kernel) (by decide +kernel) : Cond.methodLink RX13 231 yX13_readLine ∈ gws), iw_X13, cw_X13_readLine, (show "TurningSumsModel" ≠ _ by decide), (show "TurningSumsModel" ≠ _ by decide), (by decide +kernel : (parseMethodDescriptor yX13_readLine.desc).map (fun d => d.parameters.length) = some 0)⟩
theorem im_X13_readLine : Cond.instanceMethod yX13_readLine ∈ gws := gw_in 1639 (by decide +kernel) (by decide +kernel)
theorem se_X13_readLine : Cond.selects RX13 yX13_readLine yX13_readLine ∈ gws := gw_in 46 (by decide +kernel) (by decide +kernel)
theorem fkm_X13_362 : Cond.fieldLink RX13 362 (TX13 8).1 (TX13 8).2.1 (TX13 8).2.2.1 ∈ gws := gw_in 1450 (by decide +kernel) (by decide +kernel)
theorem fk_X13_362 : LK RX13 362 TX13 8 := Or.inl fkm_X13_362
theorem nk_X13_210 : NK RX13 210 RX11 15 := ⟨gw_in 1552 (by decide +kernel) (by decide +kernel), gw_in 1553 (by decide +kernel) (by decide +kernel), iw_X11⟩
theorem cw_X11_init : Cond.code yX11_init cX11_init 1 (Option.none : Option Jvm.ClassFile.FieldType) ∈ gws := gw_in 1556 (by decide +kernel) (by decide +kernel)
theorem lk_X13_365 : LKn RX13 365 m_X11_init 0 := ⟨"TurningSumsModel", by decide +kernel, iw_X11, cw_X11_init, (show "TurningSumsModel$Book" ≠ _ by decide), (show "TurningSumsModel$Book" ≠ _ by decide), (by decide +kernel : (parseMethodDescriptor yX11_init.desc).map (fun d => d.parameters.length) = some 0)⟩
theorem cw_X13_readBook : Cond.code yX13_readBook cX13_readBook 2 (Option.none : Option Jvm.ClassFile.FieldType) ∈ gws := gw_in 1636 (by decide +kernel) (by decide +kernel)
theorem lk_X13_366 : LKm RX13 366 m_X13_readBook 0 := ⟨(gw_in 1633 (by decide +kernel) (by decide +kernel) : Cond.methodLink RX13 366 yX13_readBook ∈ gws), iw_X13, cw_X13_readBook, (show "TurningSumsModel" ≠ _ by decide), (show "TurningSumsModel" ≠ _ by decide), (by decide +kernel : (parseMethodDescriptor yX13_readBook.desc).map (fun d => d.parameters.length) = some 0)⟩
theorem fkm_X13_369 : Cond.fieldLink RX13 369 (TX13 3).1 (TX13 3).2.1 (TX13 3).2.2.1 ∈ gws := gw_in 1445 (by decide +kernel) (by decide +kernel)
theorem fk_X13_369 : LK RX13 369 TX13 3 := Or.inl fkm_X13_369
theorem fkm_X13_372 : Cond.fieldLink RX13 372 (TX13 28).1 (TX13 28).2.1 (TX13 28).2.2.1 ∈ gws := gw_in 1470 (by decide +kernel) (by decide +kernel)
theorem fk_X13_372 : LK RX13 372 TX13 28 := Or.inl fkm_X13_372
theorem fkm_X13_375 : Cond.fieldLink RX13 375 (TX13 29).1 (TX13 29).2.1 (TX13 29).2.2.1 ∈ gws := gw_in 1471 (by decide +kernel) (by decide +kernel)
theorem fk_X13_375 : LK RX13 375 TX13 29 := Or.inl fkm_X13_375
theorem fkm_X13_378 : Cond.fieldLink RX13 378 (TX13 30).1 (TX13 30).2.1 (TX13 30).2.2.1 ∈ gws := gw_in 1472 (by decide +kernel) (by decide +kernel)
theorem fk_X13_378 : LK RX13 378 TX13 30 := Or.inl fkm_X13_378
theorem im_X13_readBook : Cond.instanceMethod yX13_readBook ∈ gws := gw_in 1635 (by decide +kernel) (by decide +kernel)
theorem se_X13_readBook : Cond.selects RX13 yX13_readBook yX13_readBook ∈ gws := gw_in 45 (by decide +kernel) (by decide +kernel)
theorem im_X11_init : Cond.instanceMethod yX11_init ∈ gws := gw_in 1555 (by decide +kernel) (by decide +kernel)
theorem cw_X13_isField : Cond.code yX13_isField cX13_isField 2 (Option.some Jvm.ClassFile.FieldType.boolean) ∈ gws := gw_in 1876 (by decide +kernel) (by decide +kernel)
theorem lk_X13_381 : LKm RX13 381 m_X13_isField 1 := ⟨(gw_in 1873 (by decide +kernel) (by decide +kernel) : Cond.methodLink RX13 381 yX13_isField ∈ gws), iw_X13, cw_X13_isField, (show "TurningSumsModel" ≠ _ by decide), (show "TurningSumsModel" ≠ _ by decide), (by decide +kernel : (parseMethodDescriptor yX13_isField.desc).map (fun d => d.parameters.length) = some 1)⟩
theorem im_X13_isField : Cond.instanceMethod yX13_isField ∈ gws := gw_in 1875 (by decide +kernel) (by decide +kernel)
theorem se_X13_isField : Cond.selects RX13 yX13_isField yX13_isField ∈ gws := gw_in 83 (by decide +kernel) (by decide +kernel)
theorem cw_X13_isOrder : Cond.code yX13_isOrder cX13_isOrder 3 (Option.some Jvm.ClassFile.FieldType.boolean) ∈ gws := gw_in 1888 (by decide +kernel) (by decide +kernel)
theorem lk_X13_384 : LKm RX13 384 m_X13_isOrder 2 := ⟨(gw_in 1885 (by decide +kernel) (by decide +kernel) : Cond.methodLink RX13 384 yX13_isOrder ∈ gws), iw_X13, cw_X13_isOrder, (show "TurningSumsModel" ≠ _ by decide), (show "TurningSumsModel" ≠ _ by decide), (by decide +kernel : (parseMethodDescriptor yX13_isOrder.desc).map (fun d => d.parameters.length) = some 2)⟩
theorem im_X13_isOrder : Cond.instanceMethod yX13_isOrder ∈ gws := gw_in 1887 (by decide +kernel) (by decide +kernel)
theorem se_X13_isOrder : Cond.selects RX13 yX13_isOrder yX13_isOrder ∈ gws := gw_in 84 (by decide +kernel) (by decide +kernel)
theorem cw_X13_areOrders : Cond.code yX13_areOrders cX13_areOrders 4 (Option.some Jvm.ClassFile.FieldType.boolean) ∈ gws := gw_in 1896 (by decide +kernel) (by decide +kernel)
theorem lk_X13_388 : LKm RX13 388 m_X13_areOrders 3 := ⟨(gw_in 1893 (by decide +kernel) (by decide +kernel) : Cond.methodLink RX13 388 yX13_areOrders ∈ gws), iw_X13, cw_X13_areOrders, (show "TurningSumsModel" ≠ _ by decide), (show "TurningSumsModel" ≠ _ by decide), (by decide +kernel : (parseMethodDescriptor yX13_areOrders.desc).map (fun d => d.parameters.length) = some 3)⟩
theorem cw_X13_refusedBy : Cond.code yX13_refusedBy cX13_refusedBy 3 (Option.some Jvm.ClassFile.FieldType.int) ∈ gws := gw_in 1900 (by decide +kernel) (by decide +kernel)
theorem lk_X13_391 : LKm RX13 391 m_X13_refusedBy 2 := ⟨(gw_in 1897 (by decide +kernel) (by decide +kernel) : Cond.methodLink RX13 391 yX13_refusedBy ∈ gws), iw_X13, cw_X13_refusedBy, (show "TurningSumsModel" ≠ _ by decide), (show "TurningSumsModel" ≠ _ by decide), (by decide +kernel : (parseMethodDescriptor yX13_refusedBy.desc).map (fun d => d.parameters.length) = some 2)⟩
theorem im_X13_refusedBy : Cond.instanceMethod yX13_refusedBy ∈ gws := gw_in 1899 (by decide +kernel) (by decide +kernel)
theorem se_X13_refusedBy : Cond.selects RX13 yX13_refusedBy yX13_refusedBy ∈ gws := gw_in 86 (by decide +kernel) (by decide +kernel)
theorem im_X13_areOrders : Cond.instanceMethod yX13_areOrders ∈ gws := gw_in 1895 (by decide +kernel) (by decide +kernel)
theorem se_X13_areOrders : Cond.selects RX13 yX13_areOrders yX13_areOrders ∈ gws := gw_in 85 (by decide +kernel) (by decide +kernel)
theorem cw_X13_isWhole : Cond.code yX13_isWhole cX13_isWhole 3 (Option.some Jvm.ClassFile.FieldType.boolean) ∈ gws := gw_in 1908 (by decide +kernel) (by decide +kernel)
theorem lk_X13_394 : LKm RX13 394 m_X13_isWhole 1 := ⟨(gw_in 1905 (by decide +kernel) (by decide +kernel) : Cond.methodLink RX13 394 yX13_isWhole ∈ gws), iw_X13, cw_X13_isWhole, (show "TurningSumsModel" ≠ _ by decide), (show "TurningSumsModel" ≠ _ by decide), (by decide +kernel : (parseMethodDescriptor yX13_isWhole.desc).map (fun d => d.parameters.length) = some 1)⟩
theorem im_X13_isWhole : Cond.instanceMethod yX13_isWhole ∈ gws := gw_in 1907 (by decide +kernel) (by decide +kernel)
theorem se_X13_isWhole : Cond.selects RX13 yX13_isWhole yX13_isWhole ∈ gws := gw_in 87 (by decide +kernel) (by decide +kernel)
theorem cw_X13_areAlike : Cond.code yX13_areAlike cX13_areAlike 4 (Option.some Jvm.ClassFile.FieldType.boolean) ∈ gws := gw_in 1916 (by decide +kernel) (by decide +kernel)
theorem lk_X13_397 : LKm RX13 397 m_X13_areAlike 2 := ⟨(gw_in 1913 (by decide +kernel) (by decide +kernel) : Cond.methodLink RX13 397 yX13_areAlike ∈ gws), iw_X13, cw_X13_areAlike, (show "TurningSumsModel" ≠ _ by decide), (show "TurningSumsModel" ≠ _ by decide), (by decide +kernel : (parseMethodDescriptor yX13_areAlike.desc).map (fun d => d.parameters.length) = some 2)⟩
theorem im_X13_areAlike : Cond.instanceMethod yX13_areAlike ∈ gws := gw_in 1915 (by decide +kernel) (by decide +kernel)
theorem se_X13_areAlike : Cond.selects RX13 yX13_areAlike yX13_areAlike ∈ gws := gw_in 88 (by decide +kernel) (by decide +kernel)
theorem cw_X13_partOf : Cond.code yX13_partOf cX13_partOf 10 (Option.some Jvm.ClassFile.FieldType.int) ∈ gws := gw_in 1924 (by decide +kernel) (by decide +kernel)
theorem lk_X13_400 : LKm RX13 400 m_X13_partOf 3 := ⟨(gw_in 1921 (by decide +kernel) (by decide +kernel) : Cond.methodLink RX13 400 yX13_partOf ∈ gws), iw_X13, cw_X13_partOf, (show "TurningSumsModel" ≠ _ by decide), (show "TurningSumsModel" ≠ _ by decide), (by decide +kernel : (parseMethodDescriptor yX13_partOf.desc).map (fun d => d.parameters.length) = some 3)⟩
theorem im_X13_partOf : Cond.instanceMethod yX13_partOf ∈ gws := gw_in 1923 (by decide +kernel) (by decide +kernel)
theorem se_X13_partOf : Cond.selects RX13 yX13_partOf yX13_partOf ∈ gws := gw_in 89 (by decide +kernel) (by decide +kernel)
theorem cw_X13_isLet : Cond.code yX13_isLet cX13_isLet 2 (Option.some Jvm.ClassFile.FieldType.boolean) ∈ gws := gw_in 1943 (by decide +kernel) (by decide +kernel)
theorem lk_X13_403 : LKm RX13 403 m_X13_isLet 1 := ⟨(gw_in 1940 (by decide +kernel) (by decide +kernel) : Cond.methodLink RX13 403 yX13_isLet ∈ gws), iw_X13, cw_X13_isLet, (show "TurningSumsModel" ≠ _ by decide), (show "TurningSumsModel" ≠ _ by decide), (by decide +kernel : (parseMethodDescriptor yX13_isLet.desc).map (fun d => d.parameters.length) = some 1)⟩
theorem ki_X13_410 : Cond.constant RX13 410 (-1000000000 : Int32) ∈ gws := gw_in 1948 (by decide +kernel) (by decide +kernel)
theorem cw_X13_fieldOf : Cond.code yX13_fieldOf cX13_fieldOf 2 (Option.some (Jvm.ClassFile.FieldType.object "TurningSumsModel$Field")) ∈ gws := gw_in 1947 (by decide +kernel) (by decide +kernel)
theorem lk_X13_406 : LKm RX13 406 m_X13_fieldOf 1 := ⟨(gw_in 1944 (by decide +kernel) (by decide +kernel) : Cond.methodLink RX13 406 yX13_fieldOf ∈ gws), iw_X13, cw_X13_fieldOf, (show "TurningSumsModel" ≠ _ by decide), (show "TurningSumsModel" ≠ _ by decide), (by decide +kernel : (parseMethodDescriptor yX13_fieldOf.desc).map (fun d => d.parameters.length) = some 1)⟩
theorem im_X13_fieldOf : Cond.instanceMethod yX13_fieldOf ∈ gws := gw_in 1946 (by decide +kernel) (by decide +kernel)
theorem se_X13_fieldOf : Cond.selects RX13 yX13_fieldOf yX13_fieldOf ∈ gws := gw_in 91 (by decide +kernel) (by decide +kernel)
theorem im_X13_isLet : Cond.instanceMethod yX13_isLet ∈ gws := gw_in 1942 (by decide +kernel) (by decide +kernel)
theorem se_X13_isLet : Cond.selects RX13 yX13_isLet yX13_isLet ∈ gws := gw_in 90 (by decide +kernel) (by decide +kernel)
theorem cw_X13_lets : Cond.code yX13_lets cX13_lets 4 (Option.none : Option Jvm.ClassFile.FieldType) ∈ gws := gw_in 1960 (by decide +kernel) (by decide +kernel)
theorem lk_X13_411 : LKm RX13 411 m_X13_lets 2 := ⟨(gw_in 1957 (by decide +kernel) (by decide +kernel) : Cond.methodLink RX13 411 yX13_lets ∈ gws), iw_X13, cw_X13_lets, (show "TurningSumsModel" ≠ _ by decide), (show "TurningSumsModel" ≠ _ by decide), (by decide +kernel : (parseMethodDescriptor yX13_lets.desc).map (fun d => d.parameters.length) = some 2)⟩
theorem im_X13_lets : Cond.instanceMethod yX13_lets ∈ gws := gw_in 1959 (by decide +kernel) (by decide +kernel)
theorem se_X13_lets : Cond.selects RX13 yX13_lets yX13_lets ∈ gws := gw_in 92 (by decide +kernel) (by decide +kernel)
theorem cw_X13_isEquation : Cond.code yX13_isEquation cX13_isEquation 2 (Option.some Jvm.ClassFile.FieldType.boolean) ∈ gws := gw_in 1972 (by decide +kernel) (by decide +kernel)
theorem lk_X13_413 : LKm RX13 413 m_X13_isEquation 1 := ⟨(gw_in 1969 (by decide +kernel) (by decide +kernel) : Cond.methodLink RX13 413 yX13_isEquation ∈ gws), iw_X13, cw_X13_isEquation, (show "TurningSumsModel" ≠ _ by decide), (show "TurningSumsModel" ≠ _ by decide), (by decide +kernel : (parseMethodDescriptor yX13_isEquation.desc).map (fun d => d.parameters.length) = some 1)⟩
theorem cw_X13_counts : Cond.code yX13_counts cX13_counts 7 (Option.none : Option Jvm.ClassFile.FieldType) ∈ gws := gw_in 1976 (by decide +kernel) (by decide +kernel)
theorem lk_X13_416 : LKm RX13 416 m_X13_counts 1 := ⟨(gw_in 1973 (by decide +kernel) (by decide +kernel) : Cond.methodLink RX13 416 yX13_counts ∈ gws), iw_X13, cw_X13_counts, (show "TurningSumsModel" ≠ _ by decide), (show "TurningSumsModel" ≠ _ by decide), (by decide +kernel : (parseMethodDescriptor yX13_counts.desc).map (fun d => d.parameters.length) = some 1)⟩
theorem im_X13_counts : Cond.instanceMethod yX13_counts ∈ gws := gw_in 1975 (by decide +kernel) (by decide +kernel)
theorem se_X13_counts : Cond.selects RX13 yX13_counts yX13_counts ∈ gws := gw_in 94 (by decide +kernel) (by decide +kernel)
theorem im_X13_isEquation : Cond.instanceMethod yX13_isEquation ∈ gws := gw_in 1971 (by decide +kernel) (by decide +kernel)
theorem se_X13_isEquation : Cond.selects RX13 yX13_isEquation yX13_isEquation ∈ gws := gw_in 93 (by decide +kernel) (by decide +kernel)
theorem cw_X13_goodLong : Cond.code yX13_goodLong cX13_goodLong 3 (Option.some Jvm.ClassFile.FieldType.long) ∈ gws := gw_in 1992 (by decide +kernel) (by decide +kernel)
theorem lk_X13_422 : LKm RX13 422 m_X13_goodLong 1 := ⟨(gw_in 1989 (by decide +kernel) (by decide +kernel) : Cond.methodLink RX13 422 yX13_goodLong ∈ gws), iw_X13, cw_X13_goodLong, (show "TurningSumsModel" ≠ _ by decide), (show "TurningSumsModel" ≠ _ by decide), (by decide +kernel : (parseMethodDescriptor yX13_goodLong.desc).map (fun d => d.parameters.length) = some 1)⟩
theorem im_X13_goodLong : Cond.instanceMethod yX13_goodLong ∈ gws := gw_in 1991 (by decide +kernel) (by decide +kernel)
theorem se_X13_goodLong : Cond.selects RX13 yX13_goodLong yX13_goodLong ∈ gws := gw_in 96 (by decide +kernel) (by decide +kernel)
theorem cw_X13_powerRow : Cond.code yX13_powerRow cX13_powerRow 6 (Option.none : Option Jvm.ClassFile.FieldType) ∈ gws := gw_in 1988 (by decide +kernel) (by decide +kernel)
theorem lk_X13_419 : LKm RX13 419 m_X13_powerRow 4 := ⟨(gw_in 1985 (by decide +kernel) (by decide +kernel) : Cond.methodLink RX13 419 yX13_powerRow ∈ gws), iw_X13, cw_X13_powerRow, (show "TurningSumsModel" ≠ _ by decide), (show "TurningSumsModel" ≠ _ by decide), (by decide +kernel : (parseMethodDescriptor yX13_powerRow.desc).map (fun d => d.parameters.length) = some 4)⟩
theorem im_X13_powerRow : Cond.instanceMethod yX13_powerRow ∈ gws := gw_in 1987 (by decide +kernel) (by decide +kernel)
theorem se_X13_powerRow : Cond.selects RX13 yX13_powerRow yX13_powerRow ∈ gws := gw_in 95 (by decide +kernel) (by decide +kernel)
theorem cw_X13_isOddPrime : Cond.code yX13_isOddPrime cX13_isOddPrime 1 (Option.some Jvm.ClassFile.FieldType.boolean) ∈ gws := gw_in 1999 (by decide +kernel) (by decide +kernel)
theorem lk_X13_426 : LKm RX13 426 m_X13_isOddPrime 1 := ⟨(gw_in 1997 (by decide +kernel) (by decide +kernel) : Cond.methodLink RX13 426 yX13_isOddPrime ∈ gws), iw_X13, cw_X13_isOddPrime, (show "TurningSumsModel" ≠ _ by decide), (show "TurningSumsModel" ≠ _ by decide), (by decide +kernel : (parseMethodDescriptor yX13_isOddPrime.desc).map (fun d => d.parameters.length) = some 1)⟩
theorem cw_X13_signOf : Cond.code yX13_signOf cX13_signOf 4 (Option.some Jvm.ClassFile.FieldType.int) ∈ gws := gw_in 2002 (by decide +kernel) (by decide +kernel)
theorem lk_X13_429 : LKm RX13 429 m_X13_signOf 2 := ⟨(gw_in 2000 (by decide +kernel) (by decide +kernel) : Cond.methodLink RX13 429 yX13_signOf ∈ gws), iw_X13, cw_X13_signOf, (show "TurningSumsModel" ≠ _ by decide), (show "TurningSumsModel" ≠ _ by decide), (by decide +kernel : (parseMethodDescriptor yX13_signOf.desc).map (fun d => d.parameters.length) = some 2)⟩
theorem sw_X13_signOf : Cond.static yX13_signOf ∈ gws := gw_in 2001 (by decide +kernel) (by decide +kernel)
theorem sw_X13_isOddPrime : Cond.static yX13_isOddPrime ∈ gws := gw_in 1998 (by decide +kernel) (by decide +kernel)
theorem cw_X13_isSquare : Cond.code yX13_isSquare cX13_isSquare 2 (Option.some Jvm.ClassFile.FieldType.boolean) ∈ gws := gw_in 2013 (by decide +kernel) (by decide +kernel)
theorem lk_X13_432 : LKm RX13 432 m_X13_isSquare 1 := ⟨(gw_in 2011 (by decide +kernel) (by decide +kernel) : Cond.methodLink RX13 432 yX13_isSquare ∈ gws), iw_X13, cw_X13_isSquare, (show "TurningSumsModel" ≠ _ by decide), (show "TurningSumsModel" ≠ _ by decide), (by decide +kernel : (parseMethodDescriptor yX13_isSquare.desc).map (fun d => d.parameters.length) = some 1)⟩
theorem sw_X13_isSquare : Cond.static yX13_isSquare ∈ gws := gw_in 2012 (by decide +kernel) (by decide +kernel)
theorem lk_X13_435 : LKm RX13 435 m_X13_divisor 2 := ⟨(gw_in 2018 (by decide +kernel) (by decide +kernel) : Cond.methodLink RX13 435 yX13_divisor ∈ gws), iw_X13, cw_X13_divisor, (show "TurningSumsModel" ≠ _ by decide), (show "TurningSumsModel" ≠ _ by decide), (by decide +kernel : (parseMethodDescriptor yX13_divisor.desc).map (fun d => d.parameters.length) = some 2)⟩
theorem cw_X13_rowOf : Cond.code yX13_rowOf cX13_rowOf 4 (Option.none : Option Jvm.ClassFile.FieldType) ∈ gws := gw_in 2046 (by decide +kernel) (by decide +kernel)
theorem lk_X13_438 : LKm RX13 438 m_X13_rowOf 2 := ⟨(gw_in 2043 (by decide +kernel) (by decide +kernel) : Cond.methodLink RX13 438 yX13_rowOf ∈ gws), iw_X13, cw_X13_rowOf, (show "TurningSumsModel" ≠ _ by decide), (show "TurningSumsModel" ≠ _ by decide), (by decide +kernel : (parseMethodDescriptor yX13_rowOf.desc).map (fun d => d.parameters.length) = some 2)⟩
theorem cw_X13_echoOf : Cond.code yX13_echoOf cX13_echoOf 5 (Option.some Jvm.ClassFile.FieldType.int) ∈ gws := gw_in 2050 (by decide +kernel) (by decide +kernel)
theorem lk_X13_441 : LKm RX13 441 m_X13_echoOf 2 := ⟨(gw_in 2047 (by decide +kernel) (by decide +kernel) : Cond.methodLink RX13 441 yX13_echoOf ∈ gws), iw_X13, cw_X13_echoOf, (show "TurningSumsModel" ≠ _ by decide), (show "TurningSumsModel" ≠ _ by decide), (by decide +kernel : (parseMethodDescriptor yX13_echoOf.desc).map (fun d => d.parameters.length) = some 2)⟩
theorem im_X13_echoOf : Cond.instanceMethod yX13_echoOf ∈ gws := gw_in 2049 (by decide +kernel) (by decide +kernel)
theorem se_X13_echoOf : Cond.selects RX13 yX13_echoOf yX13_echoOf ∈ gws := gw_in 99 (by decide +kernel) (by decide +kernel)
theorem im_X13_rowOf : Cond.instanceMethod yX13_rowOf ∈ gws := gw_in 2045 (by decide +kernel) (by decide +kernel)
theorem se_X13_rowOf : Cond.selects RX13 yX13_rowOf yX13_rowOf ∈ gws := gw_in 98 (by decide +kernel) (by decide +kernel)
theorem cw_X13_refusesTurn : Cond.code yX13_refusesTurn cX13_refusesTurn 3 (Option.some Jvm.ClassFile.FieldType.int) ∈ gws := gw_in 2042 (by decide +kernel) (by decide +kernel)
theorem lk_X13_444 : LKm RX13 444 m_X13_refusesTurn 2 := ⟨(gw_in 2039 (by decide +kernel) (by decide +kernel) : Cond.methodLink RX13 444 yX13_refusesTurn ∈ gws), iw_X13, cw_X13_refusesTurn, (show "TurningSumsModel" ≠ _ by decide), (show "TurningSumsModel" ≠ _ by decide), (by decide +kernel : (parseMethodDescriptor yX13_refusesTurn.desc).map (fun d => d.parameters.length) = some 2)⟩
theorem im_X13_refusesTurn : Cond.instanceMethod yX13_refusesTurn ∈ gws := gw_in 2041 (by decide +kernel) (by decide +kernel)
theorem se_X13_refusesTurn : Cond.selects RX13 yX13_refusesTurn yX13_refusesTurn ∈ gws := gw_in 97 (by decide +kernel) (by decide +kernel)
theorem cw_X13_noiseOf : Cond.code yX13_noiseOf cX13_noiseOf 6 (Option.some Jvm.ClassFile.FieldType.long) ∈ gws := gw_in 2058 (by decide +kernel) (by decide +kernel)
theorem lk_X13_447 : LKm RX13 447 m_X13_noiseOf 2 := ⟨(gw_in 2055 (by decide +kernel) (by decide +kernel) : Cond.methodLink RX13 447 yX13_noiseOf ∈ gws), iw_X13, cw_X13_noiseOf, (show "TurningSumsModel" ≠ _ by decide), (show "TurningSumsModel" ≠ _ by decide), (by decide +kernel : (parseMethodDescriptor yX13_noiseOf.desc).map (fun d => d.parameters.length) = some 2)⟩
theorem im_X13_noiseOf : Cond.instanceMethod yX13_noiseOf ∈ gws := gw_in 2057 (by decide +kernel) (by decide +kernel)
theorem se_X13_noiseOf : Cond.selects RX13 yX13_noiseOf yX13_noiseOf ∈ gws := gw_in 100 (by decide +kernel) (by decide +kernel)
theorem cw_X13_keeps : Cond.code yX13_keeps cX13_keeps 4 (Option.none : Option Jvm.ClassFile.FieldType) ∈ gws := gw_in 2078 (by decide +kernel) (by decide +kernel)
theorem lk_X13_451 : LKm RX13 451 m_X13_keeps 2 := ⟨(gw_in 2075 (by decide +kernel) (by decide +kernel) : Cond.methodLink RX13 451 yX13_keeps ∈ gws), iw_X13, cw_X13_keeps, (show "TurningSumsModel" ≠ _ by decide), (show "TurningSumsModel" ≠ _ by decide), (by decide +kernel : (parseMethodDescriptor yX13_keeps.desc).map (fun d => d.parameters.length) = some 2)⟩
theorem cw_X13_granted : Cond.code yX13_granted cX13_granted 1 (Option.some Jvm.ClassFile.FieldType.boolean) ∈ gws := gw_in 2082 (by decide +kernel) (by decide +kernel)
theorem lk_X13_455 : LKm RX13 455 m_X13_granted 0 := ⟨(gw_in 2079 (by decide +kernel) (by decide +kernel) : Cond.methodLink RX13 455 yX13_granted ∈ gws), iw_X13, cw_X13_granted, (show "TurningSumsModel" ≠ _ by decide), (show "TurningSumsModel" ≠ _ by decide), (by decide +kernel : (parseMethodDescriptor yX13_granted.desc).map (fun d => d.parameters.length) = some 0)⟩
theorem im_X13_granted : Cond.instanceMethod yX13_granted ∈ gws := gw_in 2081 (by decide +kernel) (by decide +kernel)
theorem se_X13_granted : Cond.selects RX13 yX13_granted yX13_granted ∈ gws := gw_in 104 (by decide +kernel) (by decide +kernel)
theorem im_X13_keeps : Cond.instanceMethod yX13_keeps ∈ gws := gw_in 2077 (by decide +kernel) (by decide +kernel)
theorem se_X13_keeps : Cond.selects RX13 yX13_keeps yX13_keeps ∈ gws := gw_in 103 (by decide +kernel) (by decide +kernel)
theorem cw_X13_acts : Cond.code yX13_acts cX13_acts 2 (Option.some Jvm.ClassFile.FieldType.boolean) ∈ gws := gw_in 2074 (by decide +kernel) (by decide +kernel)
theorem lk_X13_458 : LKm RX13 458 m_X13_acts 0 := ⟨(gw_in 2071 (by decide +kernel) (by decide +kernel) : Cond.methodLink RX13 458 yX13_acts ∈ gws), iw_X13, cw_X13_acts, (show "TurningSumsModel" ≠ _ by decide), (show "TurningSumsModel" ≠ _ by decide), (by decide +kernel : (parseMethodDescriptor yX13_acts.desc).map (fun d => d.parameters.length) = some 0)⟩
theorem im_X13_acts : Cond.instanceMethod yX13_acts ∈ gws := gw_in 2073 (by decide +kernel) (by decide +kernel)
theorem se_X13_acts : Cond.selects RX13 yX13_acts yX13_acts ∈ gws := gw_in 102 (by decide +kernel) (by decide +kernel)
theorem cw_X13_denied : Cond.code yX13_denied cX13_denied 2 (Option.some Jvm.ClassFile.FieldType.boolean) ∈ gws := gw_in 2070 (by decide +kernel) (by decide +kernel)
theorem lk_X13_461 : LKm RX13 461 m_X13_denied 1 := ⟨(gw_in 2067 (by decide +kernel) (by decide +kernel) : Cond.methodLink RX13 461 yX13_denied ∈ gws), iw_X13, cw_X13_denied, (show "TurningSumsModel" ≠ _ by decide), (show "TurningSumsModel" ≠ _ by decide), (by decide +kernel : (parseMethodDescriptor yX13_denied.desc).map (fun d => d.parameters.length) = some 1)⟩
theorem im_X13_denied : Cond.instanceMethod yX13_denied ∈ gws := gw_in 2069 (by decide +kernel) (by decide +kernel)
theorem se_X13_denied : Cond.selects RX13 yX13_denied yX13_denied ∈ gws := gw_in 101 (by decide +kernel) (by decide +kernel)
theorem cw_X13_isRegister : Cond.code yX13_isRegister cX13_isRegister 2 (Option.some Jvm.ClassFile.FieldType.boolean) ∈ gws := gw_in 2090 (by decide +kernel) (by decide +kernel)
theorem lk_X13_464 : LKm RX13 464 m_X13_isRegister 1 := ⟨(gw_in 2087 (by decide +kernel) (by decide +kernel) : Cond.methodLink RX13 464 yX13_isRegister ∈ gws), iw_X13, cw_X13_isRegister, (show "TurningSumsModel" ≠ _ by decide), (show "TurningSumsModel" ≠ _ by decide), (by decide +kernel : (parseMethodDescriptor yX13_isRegister.desc).map (fun d => d.parameters.length) = some 1)⟩
theorem cw_X13_chosen : Cond.code yX13_chosen cX13_chosen 1 (Option.some (Jvm.ClassFile.FieldType.object "TurningSumsModel$Field")) ∈ gws := gw_in 2094 (by decide +kernel) (by decide +kernel)
theorem lk_X13_467 : LKm RX13 467 m_X13_chosen 0 := ⟨(gw_in 2091 (by decide +kernel) (by decide +kernel) : Cond.methodLink RX13 467 yX13_chosen ∈ gws), iw_X13, cw_X13_chosen, (show "TurningSumsModel" ≠ _ by decide), (show "TurningSumsModel" ≠ _ by decide), (by decide +kernel : (parseMethodDescriptor yX13_chosen.desc).map (fun d => d.parameters.length) = some 0)⟩
theorem im_X13_chosen : Cond.instanceMethod yX13_chosen ∈ gws := gw_in 2093 (by decide +kernel) (by decide +kernel)
theorem se_X13_chosen : Cond.selects RX13 yX13_chosen yX13_chosen ∈ gws := gw_in 106 (by decide +kernel) (by decide +kernel)
theorem im_X13_isRegister : Cond.instanceMethod yX13_isRegister ∈ gws := gw_in 2089 (by decide +kernel) (by decide +kernel)
theorem se_X13_isRegister : Cond.selects RX13 yX13_isRegister yX13_isRegister ∈ gws := gw_in 105 (by decide +kernel) (by decide +kernel)
theorem cw_X13_stores : Cond.code yX13_stores cX13_stores 4 (Option.some Jvm.ClassFile.FieldType.boolean) ∈ gws := gw_in 2102 (by decide +kernel) (by decide +kernel)
theorem lk_X13_471 : LKm RX13 471 m_X13_stores 2 := ⟨(gw_in 2099 (by decide +kernel) (by decide +kernel) : Cond.methodLink RX13 471 yX13_stores ∈ gws), iw_X13, cw_X13_stores, (show "TurningSumsModel" ≠ _ by decide), (show "TurningSumsModel" ≠ _ by decide), (by decide +kernel : (parseMethodDescriptor yX13_stores.desc).map (fun d => d.parameters.length) = some 2)⟩
theorem im_X13_stores : Cond.instanceMethod yX13_stores ∈ gws := gw_in 2101 (by decide +kernel) (by decide +kernel)
theorem se_X13_stores : Cond.selects RX13 yX13_stores yX13_stores ∈ gws := gw_in 107 (by decide +kernel) (by decide +kernel)
theorem cw_X13_loads : Cond.code yX13_loads cX13_loads 4 (Option.none : Option Jvm.ClassFile.FieldType) ∈ gws := gw_in 2114 (by decide +kernel) (by decide +kernel)
theorem lk_X13_474 : LKm RX13 474 m_X13_loads 2 := ⟨(gw_in 2111 (by decide +kernel) (by decide +kernel) : Cond.methodLink RX13 474 yX13_loads ∈ gws), iw_X13, cw_X13_loads, (show "TurningSumsModel" ≠ _ by decide), (show "TurningSumsModel" ≠ _ by decide), (by decide +kernel : (parseMethodDescriptor yX13_loads.desc).map (fun d => d.parameters.length) = some 2)⟩
theorem im_X13_loads : Cond.instanceMethod yX13_loads ∈ gws := gw_in 2113 (by decide +kernel) (by decide +kernel)
theorem se_X13_loads : Cond.selects RX13 yX13_loads yX13_loads ∈ gws := gw_in 108 (by decide +kernel) (by decide +kernel)
theorem kj_X13_479 : Cond.constantLong RX13 479 (-9223372036854775808 : Int64) ∈ gws := gw_in 2127 (by decide +kernel) (by decide +kernel)
theorem cw_X13_takes : Cond.code yX13_takes cX13_takes 4 (Option.none : Option Jvm.ClassFile.FieldType) ∈ gws := gw_in 2135 (by decide +kernel) (by decide +kernel)
theorem lk_X13_481 : LKm RX13 481 m_X13_takes 2 := ⟨(gw_in 2132 (by decide +kernel) (by decide +kernel) : Cond.methodLink RX13 481 yX13_takes ∈ gws), iw_X13, cw_X13_takes, (show "TurningSumsModel" ≠ _ by decide), (show "TurningSumsModel" ≠ _ by decide), (by decide +kernel : (parseMethodDescriptor yX13_takes.desc).map (fun d => d.parameters.length) = some 2)⟩
theorem im_X13_takes : Cond.instanceMethod yX13_takes ∈ gws := gw_in 2134 (by decide +kernel) (by decide +kernel)
theorem se_X13_takes : Cond.selects RX13 yX13_takes yX13_takes ∈ gws := gw_in 109 (by decide +kernel) (by decide +kernel)
