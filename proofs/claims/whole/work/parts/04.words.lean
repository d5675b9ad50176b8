theorem mem_Gs {ws : List Cond} (is : List Nat) (h : is.map (fun i => lw_tbl[i]?) = ws.map some) (hg : ws.all goodWord = true) : ∀ w ∈ ws, w ∈ G := by
  intro w hw
  have h1 : some w ∈ is.map (fun i => lw_tbl[i]?) := by rw [h]; exact List.mem_map.mpr ⟨w, hw, rfl⟩
  obtain ⟨i, -, hi⟩ := List.mem_map.mp h1
  exact mem_G i hi (List.all_eq_true.mp hg w hw)
theorem G_se_X1_turns : Cond.selects RX1 yX1_turns yX1_turns ∈ G := mem_G 0 (by decide +kernel) (by decide +kernel)
theorem G_se_X8_addInLowestTerms : Cond.selects RX8 yX8_addInLowestTerms yX8_addInLowestTerms ∈ G := mem_G 1 (by decide +kernel) (by decide +kernel)
theorem G_se_X8_markRing : Cond.selects RX8 yX8_markRing yX8_markRing ∈ G := mem_G 2 (by decide +kernel) (by decide +kernel)
theorem G_se_X0_isSo : Cond.selects RX0 yX0_isSo yX0_isSo ∈ G := mem_G 3 (by decide +kernel) (by decide +kernel)
theorem G_se_X1_wholeDigits : Cond.selects RX1 yX1_wholeDigits yX1_wholeDigits ∈ G := mem_G 4 (by decide +kernel) (by decide +kernel)
theorem G_se_X1_wholeDigit : Cond.selects RX1 yX1_wholeDigit yX1_wholeDigit ∈ G := mem_G 5 (by decide +kernel) (by decide +kernel)
theorem G_se_X7_digitOn : Cond.selects RX7 yX7_digitOn yX7_digitOn ∈ G := mem_G 6 (by decide +kernel) (by decide +kernel)
theorem G_se_X3_takesPeriod : Cond.selects RX3 yX3_takesPeriod yX3_takesPeriod ∈ G := mem_G 7 (by decide +kernel) (by decide +kernel)
theorem G_se_X5_parseCommand : Cond.selects RX5 yX5_parseCommand yX5_parseCommand ∈ G := mem_G 8 (by decide +kernel) (by decide +kernel)
theorem G_se_X8_doCommand : Cond.selects RX8 yX8_doCommand yX8_doCommand ∈ G := mem_G 9 (by decide +kernel) (by decide +kernel)
theorem G_se_X8_holderAt : Cond.selects RX8 yX8_holderAt yX8_holderAt ∈ G := mem_G 10 (by decide +kernel) (by decide +kernel)
theorem G_se_X9_comes : Cond.selects RX9 yX9_comes yX9_comes ∈ G := mem_G 11 (by decide +kernel) (by decide +kernel)
theorem G_se_X9_isFraction : Cond.selects RX9 yX9_isFraction yX9_isFraction ∈ G := mem_G 12 (by decide +kernel) (by decide +kernel)
theorem G_se_X9_comesLowest : Cond.selects RX9 yX9_comesLowest yX9_comesLowest ∈ G := mem_G 13 (by decide +kernel) (by decide +kernel)
theorem G_se_X9_looksAt : Cond.selects RX9 yX9_looksAt yX9_looksAt ∈ G := mem_G 14 (by decide +kernel) (by decide +kernel)
theorem G_se_X9_looks : Cond.selects RX9 yX9_looks yX9_looks ∈ G := mem_G 15 (by decide +kernel) (by decide +kernel)
theorem G_se_X9_kindNow : Cond.selects RX9 yX9_kindNow yX9_kindNow ∈ G := mem_G 16 (by decide +kernel) (by decide +kernel)
theorem G_se_X9_placeOf : Cond.selects RX9 yX9_placeOf yX9_placeOf ∈ G := mem_G 17 (by decide +kernel) (by decide +kernel)
theorem G_se_X9_isParted : Cond.selects RX9 yX9_isParted yX9_isParted ∈ G := mem_G 18 (by decide +kernel) (by decide +kernel)
theorem G_se_X9_blocks : Cond.selects RX9 yX9_blocks yX9_blocks ∈ G := mem_G 19 (by decide +kernel) (by decide +kernel)
theorem G_se_X9_ninesNow : Cond.selects RX9 yX9_ninesNow yX9_ninesNow ∈ G := mem_G 20 (by decide +kernel) (by decide +kernel)
theorem G_se_X9_smallNines : Cond.selects RX9 yX9_smallNines yX9_smallNines ∈ G := mem_G 21 (by decide +kernel) (by decide +kernel)
theorem G_se_X9_greatNines : Cond.selects RX9 yX9_greatNines yX9_greatNines ∈ G := mem_G 22 (by decide +kernel) (by decide +kernel)
theorem G_se_X9_keepsRing : Cond.selects RX9 yX9_keepsRing yX9_keepsRing ∈ G := mem_G 23 (by decide +kernel) (by decide +kernel)
theorem G_se_X9_shiftNow : Cond.selects RX9 yX9_shiftNow yX9_shiftNow ∈ G := mem_G 24 (by decide +kernel) (by decide +kernel)
theorem G_se_X9_isFull : Cond.selects RX9 yX9_isFull yX9_isFull ∈ G := mem_G 25 (by decide +kernel) (by decide +kernel)
theorem G_se_X9_wordOf : Cond.selects RX9 yX9_wordOf yX9_wordOf ∈ G := mem_G 26 (by decide +kernel) (by decide +kernel)
theorem G_se_X9_isSo : Cond.selects RX9 yX9_isSo yX9_isSo ∈ G := mem_G 27 (by decide +kernel) (by decide +kernel)
theorem G_se_X9_wholeSize : Cond.selects RX9 yX9_wholeSize yX9_wholeSize ∈ G := mem_G 28 (by decide +kernel) (by decide +kernel)
theorem G_se_X9_wholeDigit : Cond.selects RX9 yX9_wholeDigit yX9_wholeDigit ∈ G := mem_G 29 (by decide +kernel) (by decide +kernel)
theorem G_se_X9_isNumeral : Cond.selects RX9 yX9_isNumeral yX9_isNumeral ∈ G := mem_G 30 (by decide +kernel) (by decide +kernel)
theorem G_se_X9_readsDigits : Cond.selects RX9 yX9_readsDigits yX9_readsDigits ∈ G := mem_G 31 (by decide +kernel) (by decide +kernel)
theorem G_se_X9_digitAt : Cond.selects RX9 yX9_digitAt yX9_digitAt ∈ G := mem_G 32 (by decide +kernel) (by decide +kernel)
theorem G_se_X9_isAt : Cond.selects RX9 yX9_isAt yX9_isAt ∈ G := mem_G 33 (by decide +kernel) (by decide +kernel)
theorem G_se_X9_command : Cond.selects RX9 yX9_command yX9_command ∈ G := mem_G 34 (by decide +kernel) (by decide +kernel)
theorem G_se_X9_commandOf : Cond.selects RX9 yX9_commandOf yX9_commandOf ∈ G := mem_G 35 (by decide +kernel) (by decide +kernel)
theorem G_se_X9_done : Cond.selects RX9 yX9_done yX9_done ∈ G := mem_G 36 (by decide +kernel) (by decide +kernel)
theorem G_se_X9_looksHeld : Cond.selects RX9 yX9_looksHeld yX9_looksHeld ∈ G := mem_G 37 (by decide +kernel) (by decide +kernel)
theorem G_se_X9_whyNot : Cond.selects RX9 yX9_whyNot yX9_whyNot ∈ G := mem_G 38 (by decide +kernel) (by decide +kernel)
theorem G_in_L : Cond.initialized RL ∈ G := mem_G 39 (by decide +kernel) (by decide +kernel)
theorem G_in_X8 : Cond.initialized RX8 ∈ G := mem_G 40 (by decide +kernel) (by decide +kernel)
theorem G_in_X6 : Cond.initialized RX6 ∈ G := mem_G 41 (by decide +kernel) (by decide +kernel)
theorem G_in_X1 : Cond.initialized RX1 ∈ G := mem_G 42 (by decide +kernel) (by decide +kernel)
theorem G_in_X0 : Cond.initialized RX0 ∈ G := mem_G 43 (by decide +kernel) (by decide +kernel)
theorem G_in_X7 : Cond.initialized RX7 ∈ G := mem_G 44 (by decide +kernel) (by decide +kernel)
theorem G_in_X3 : Cond.initialized RX3 ∈ G := mem_G 45 (by decide +kernel) (by decide +kernel)
theorem G_in_X5 : Cond.initialized RX5 ∈ G := mem_G 46 (by decide +kernel) (by decide +kernel)
theorem G_in_X4 : Cond.initialized RX4 ∈ G := mem_G 47 (by decide +kernel) (by decide +kernel)
theorem G_in_X2 : Cond.initialized RX2 ∈ G := mem_G 48 (by decide +kernel) (by decide +kernel)
theorem G_in_X9 : Cond.initialized RX9 ∈ G := mem_G 49 (by decide +kernel) (by decide +kernel)
theorem G_in_J9 : Cond.initialized RJ9 ∈ G := mem_G 50 (by decide +kernel) (by decide +kernel)
theorem G_in_J0 : Cond.initialized RJ0 ∈ G := mem_G 51 (by decide +kernel) (by decide +kernel)
theorem G_in_J1 : Cond.initialized RJ1 ∈ G := mem_G 52 (by decide +kernel) (by decide +kernel)
theorem G_in_J3 : Cond.initialized RJ3 ∈ G := mem_G 53 (by decide +kernel) (by decide +kernel)
theorem G_in_J2 : Cond.initialized RJ2 ∈ G := mem_G 54 (by decide +kernel) (by decide +kernel)
theorem G_kl_L_7 : Cond.classLink RL 7 RX8 ∈ G := mem_G 55 (by decide +kernel) (by decide +kernel)
theorem G_is_X8 : Cond.instantiable RX8 12 ∈ G := mem_G 56 (by decide +kernel) (by decide +kernel)
theorem G_ml_L_9 : Cond.methodLink RL 9 yX8_init ∈ G := mem_G 57 (by decide +kernel) (by decide +kernel)
theorem G_im_X8_init : Cond.instanceMethod yX8_init ∈ G := mem_G 58 (by decide +kernel) (by decide +kernel)
theorem G_cd_X8_init : Cond.code yX8_init cX8_init 2 none ∈ G := mem_G 59 (by decide +kernel) (by decide +kernel)
theorem G_ml_X8_3 : Cond.methodLink RX8 3 objectInit ∈ G := mem_G 60 (by decide +kernel) (by decide +kernel)
theorem G_im_objectInit : Cond.instanceMethod objectInit ∈ G := mem_G 61 (by decide +kernel) (by decide +kernel)
theorem G_cd_objectInit : Cond.code objectInit ⟨#[0xb1]⟩ 1 none ∈ G := mem_G 62 (by decide +kernel) (by decide +kernel)
theorem G_kl_X8_9 : Cond.classLink RX8 9 RX6 ∈ G := mem_G 63 (by decide +kernel) (by decide +kernel)
theorem G_is_X6 : Cond.instantiable RX6 2 ∈ G := mem_G 64 (by decide +kernel) (by decide +kernel)
theorem G_ml_X8_11 : Cond.methodLink RX8 11 yX6_init ∈ G := mem_G 65 (by decide +kernel) (by decide +kernel)
theorem G_im_X6_init : Cond.instanceMethod yX6_init ∈ G := mem_G 66 (by decide +kernel) (by decide +kernel)
theorem G_cd_X6_init : Cond.code yX6_init cX6_init 2 none ∈ G := mem_G 67 (by decide +kernel) (by decide +kernel)
theorem G_ml_X6_3 : Cond.methodLink RX6 3 objectInit ∈ G := mem_G 68 (by decide +kernel) (by decide +kernel)
theorem G_kl_X6_9 : Cond.classLink RX6 9 RX1 ∈ G := mem_G 69 (by decide +kernel) (by decide +kernel)
theorem G_is_X1 : Cond.instantiable RX1 7 ∈ G := mem_G 71 (by decide +kernel) (by decide +kernel)
theorem G_im_X1_init : Cond.instanceMethod yX1_init ∈ G := mem_G 73 (by decide +kernel) (by decide +kernel)
theorem G_cd_X1_init : Cond.code yX1_init cX1_init 1 none ∈ G := mem_G 74 (by decide +kernel) (by decide +kernel)
theorem G_ml_X1_3 : Cond.methodLink RX1 3 objectInit ∈ G := mem_G 75 (by decide +kernel) (by decide +kernel)
theorem G_fl_X1_9 : Cond.fieldLink RX1 9 "TurningFractions$Fraction" "a" "I" ∈ G := mem_G 76 (by decide +kernel) (by decide +kernel)
theorem G_fl_X8_101 : Cond.fieldLink RX8 101 "TurningFractions$Fraction" "a" "I" ∈ G := mem_G 77 (by decide +kernel) (by decide +kernel)
theorem G_fl_X1_15 : Cond.fieldLink RX1 15 "TurningFractions$Fraction" "b" "I" ∈ G := mem_G 78 (by decide +kernel) (by decide +kernel)
theorem G_fl_X8_105 : Cond.fieldLink RX8 105 "TurningFractions$Fraction" "b" "I" ∈ G := mem_G 79 (by decide +kernel) (by decide +kernel)
theorem G_fl_X1_18 : Cond.fieldLink RX1 18 "TurningFractions$Fraction" "base" "I" ∈ G := mem_G 80 (by decide +kernel) (by decide +kernel)
theorem G_fl_X8_108 : Cond.fieldLink RX8 108 "TurningFractions$Fraction" "base" "I" ∈ G := mem_G 81 (by decide +kernel) (by decide +kernel)
theorem G_fl_X1_21 : Cond.fieldLink RX1 21 "TurningFractions$Fraction" "head" "I" ∈ G := mem_G 82 (by decide +kernel) (by decide +kernel)
theorem G_fl_X8_130 : Cond.fieldLink RX8 130 "TurningFractions$Fraction" "head" "I" ∈ G := mem_G 83 (by decide +kernel) (by decide +kernel)
theorem G_fl_X1_24 : Cond.fieldLink RX1 24 "TurningFractions$Fraction" "length" "I" ∈ G := mem_G 84 (by decide +kernel) (by decide +kernel)
theorem G_fl_X4_19 : Cond.fieldLink RX4 19 "TurningFractions$Fraction" "length" "I" ∈ G := mem_G 85 (by decide +kernel) (by decide +kernel)
theorem G_fl_X0_72 : Cond.fieldLink RX0 72 "TurningFractions$Fraction" "length" "I" ∈ G := mem_G 86 (by decide +kernel) (by decide +kernel)
theorem G_fl_X8_133 : Cond.fieldLink RX8 133 "TurningFractions$Fraction" "length" "I" ∈ G := mem_G 87 (by decide +kernel) (by decide +kernel)
theorem G_fl_X1_27 : Cond.fieldLink RX1 27 "TurningFractions$Fraction" "turningRest" "I" ∈ G := mem_G 88 (by decide +kernel) (by decide +kernel)
theorem G_fl_X4_22 : Cond.fieldLink RX4 22 "TurningFractions$Fraction" "turningRest" "I" ∈ G := mem_G 89 (by decide +kernel) (by decide +kernel)
theorem G_fl_X1_30 : Cond.fieldLink RX1 30 "TurningFractions$Fraction" "fading" "I" ∈ G := mem_G 90 (by decide +kernel) (by decide +kernel)
theorem G_fl_X6_11 : Cond.fieldLink RX6 11 "TurningFractions$Shelf" "places" "[LTurningFractions$Fraction;" ∈ G := mem_G 106 (by decide +kernel) (by decide +kernel)
theorem G_fl_X6_17 : Cond.fieldLink RX6 17 "TurningFractions$Shelf" "length" "I" ∈ G := mem_G 107 (by decide +kernel) (by decide +kernel)
theorem G_fl_X8_289 : Cond.fieldLink RX8 289 "TurningFractions$Shelf" "length" "I" ∈ G := mem_G 108 (by decide +kernel) (by decide +kernel)
theorem G_kl_X8_18 : Cond.classLink RX8 18 RX0 ∈ G := mem_G 114 (by decide +kernel) (by decide +kernel)
theorem G_is_X0 : Cond.instantiable RX0 4 ∈ G := mem_G 115 (by decide +kernel) (by decide +kernel)
theorem G_im_X0_init : Cond.instanceMethod yX0_init ∈ G := mem_G 117 (by decide +kernel) (by decide +kernel)
theorem G_cd_X0_init : Cond.code yX0_init cX0_init 1 none ∈ G := mem_G 118 (by decide +kernel) (by decide +kernel)
theorem G_ml_X0_3 : Cond.methodLink RX0 3 objectInit ∈ G := mem_G 119 (by decide +kernel) (by decide +kernel)
theorem G_kl_X0_22 : Cond.classLink RX0 22 RX1 ∈ G := mem_G 120 (by decide +kernel) (by decide +kernel)
theorem G_fl_X0_9 : Cond.fieldLink RX0 9 "TurningFractions$Denominators" "numbers" "[I" ∈ G := mem_G 122 (by decide +kernel) (by decide +kernel)
theorem G_fl_X8_213 : Cond.fieldLink RX8 213 "TurningFractions$Denominators" "numbers" "[I" ∈ G := mem_G 123 (by decide +kernel) (by decide +kernel)
theorem G_fl_X0_15 : Cond.fieldLink RX0 15 "TurningFractions$Denominators" "length" "I" ∈ G := mem_G 124 (by decide +kernel) (by decide +kernel)
theorem G_fl_X8_195 : Cond.fieldLink RX8 195 "TurningFractions$Denominators" "length" "I" ∈ G := mem_G 125 (by decide +kernel) (by decide +kernel)
theorem G_fl_X0_19 : Cond.fieldLink RX0 19 "TurningFractions$Denominators" "base" "I" ∈ G := mem_G 126 (by decide +kernel) (by decide +kernel)
theorem G_fl_X8_290 : Cond.fieldLink RX8 290 "TurningFractions$Denominators" "base" "I" ∈ G := mem_G 127 (by decide +kernel) (by decide +kernel)
theorem G_fl_X0_25 : Cond.fieldLink RX0 25 "TurningFractions$Denominators" "unit" "LTurningFractions$Fraction;" ∈ G := mem_G 128 (by decide +kernel) (by decide +kernel)
theorem G_kl_X8_25 : Cond.classLink RX8 25 RX7 ∈ G := mem_G 139 (by decide +kernel) (by decide +kernel)
theorem G_is_X7 : Cond.instantiable RX7 4 ∈ G := mem_G 140 (by decide +kernel) (by decide +kernel)
theorem G_im_X7_init : Cond.instanceMethod yX7_init ∈ G := mem_G 142 (by decide +kernel) (by decide +kernel)
theorem G_cd_X7_init : Cond.code yX7_init cX7_init 1 none ∈ G := mem_G 143 (by decide +kernel) (by decide +kernel)
theorem G_ml_X7_3 : Cond.methodLink RX7 3 objectInit ∈ G := mem_G 144 (by decide +kernel) (by decide +kernel)
theorem G_fl_X7_9 : Cond.fieldLink RX7 9 "TurningFractions$Tape" "bytes" "[I" ∈ G := mem_G 145 (by decide +kernel) (by decide +kernel)
theorem G_fl_X7_15 : Cond.fieldLink RX7 15 "TurningFractions$Tape" "length" "I" ∈ G := mem_G 146 (by decide +kernel) (by decide +kernel)
theorem G_fl_X0_37 : Cond.fieldLink RX0 37 "TurningFractions$Tape" "length" "I" ∈ G := mem_G 147 (by decide +kernel) (by decide +kernel)
theorem G_fl_X8_226 : Cond.fieldLink RX8 226 "TurningFractions$Tape" "length" "I" ∈ G := mem_G 148 (by decide +kernel) (by decide +kernel)
theorem G_fl_X7_19 : Cond.fieldLink RX7 19 "TurningFractions$Tape" "at" "I" ∈ G := mem_G 149 (by decide +kernel) (by decide +kernel)
theorem G_fl_X3_18 : Cond.fieldLink RX3 18 "TurningFractions$Tape" "at" "I" ∈ G := mem_G 150 (by decide +kernel) (by decide +kernel)
theorem G_fl_X5_26 : Cond.fieldLink RX5 26 "TurningFractions$Tape" "at" "I" ∈ G := mem_G 151 (by decide +kernel) (by decide +kernel)
theorem G_fl_X7_22 : Cond.fieldLink RX7 22 "TurningFractions$Tape" "number" "J" ∈ G := mem_G 152 (by decide +kernel) (by decide +kernel)
theorem G_fl_X3_24 : Cond.fieldLink RX3 24 "TurningFractions$Tape" "number" "J" ∈ G := mem_G 153 (by decide +kernel) (by decide +kernel)
theorem G_fl_X5_58 : Cond.fieldLink RX5 58 "TurningFractions$Tape" "number" "J" ∈ G := mem_G 154 (by decide +kernel) (by decide +kernel)
theorem G_kl_X8_32 : Cond.classLink RX8 32 RX3 ∈ G := mem_G 164 (by decide +kernel) (by decide +kernel)
theorem G_is_X3 : Cond.instantiable RX3 2 ∈ G := mem_G 165 (by decide +kernel) (by decide +kernel)
theorem G_im_X3_init : Cond.instanceMethod yX3_init ∈ G := mem_G 167 (by decide +kernel) (by decide +kernel)
theorem G_cd_X3_init : Cond.code yX3_init cX3_init 1 none ∈ G := mem_G 168 (by decide +kernel) (by decide +kernel)
theorem G_ml_X3_3 : Cond.methodLink RX3 3 objectInit ∈ G := mem_G 169 (by decide +kernel) (by decide +kernel)
theorem G_fl_X3_9 : Cond.fieldLink RX3 9 "TurningFractions$Numeral" "a" "J" ∈ G := mem_G 170 (by decide +kernel) (by decide +kernel)
theorem G_fl_X8_239 : Cond.fieldLink RX8 239 "TurningFractions$Numeral" "a" "J" ∈ G := mem_G 171 (by decide +kernel) (by decide +kernel)
theorem G_fl_X3_15 : Cond.fieldLink RX3 15 "TurningFractions$Numeral" "b" "J" ∈ G := mem_G 172 (by decide +kernel) (by decide +kernel)
theorem G_fl_X8_242 : Cond.fieldLink RX8 242 "TurningFractions$Numeral" "b" "J" ∈ G := mem_G 173 (by decide +kernel) (by decide +kernel)
theorem G_kl_X8_39 : Cond.classLink RX8 39 RX5 ∈ G := mem_G 179 (by decide +kernel) (by decide +kernel)
theorem G_is_X5 : Cond.instantiable RX5 3 ∈ G := mem_G 180 (by decide +kernel) (by decide +kernel)
theorem G_im_X5_init : Cond.instanceMethod yX5_init ∈ G := mem_G 182 (by decide +kernel) (by decide +kernel)
theorem G_cd_X5_init : Cond.code yX5_init cX5_init 1 none ∈ G := mem_G 183 (by decide +kernel) (by decide +kernel)
theorem G_ml_X5_3 : Cond.methodLink RX5 3 objectInit ∈ G := mem_G 184 (by decide +kernel) (by decide +kernel)
theorem G_fl_X5_11 : Cond.fieldLink RX5 11 "TurningFractions$Script" "words" "[I" ∈ G := mem_G 185 (by decide +kernel) (by decide +kernel)
theorem G_fl_X5_15 : Cond.fieldLink RX5 15 "TurningFractions$Script" "numbers" "[I" ∈ G := mem_G 186 (by decide +kernel) (by decide +kernel)
theorem G_fl_X5_18 : Cond.fieldLink RX5 18 "TurningFractions$Script" "commands" "I" ∈ G := mem_G 187 (by decide +kernel) (by decide +kernel)
theorem G_fl_X8_247 : Cond.fieldLink RX8 247 "TurningFractions$Script" "commands" "I" ∈ G := mem_G 188 (by decide +kernel) (by decide +kernel)
theorem G_kl_X8_46 : Cond.classLink RX8 46 RX2 ∈ G := mem_G 196 (by decide +kernel) (by decide +kernel)
theorem G_kl_X8_62 : Cond.classLink RX8 62 RX4 ∈ G := mem_G 198 (by decide +kernel) (by decide +kernel)
theorem G_is_X4 : Cond.instantiable RX4 2 ∈ G := mem_G 199 (by decide +kernel) (by decide +kernel)
theorem G_im_X4_init : Cond.instanceMethod yX4_init ∈ G := mem_G 201 (by decide +kernel) (by decide +kernel)
theorem G_cd_X4_init : Cond.code yX4_init cX4_init 1 none ∈ G := mem_G 202 (by decide +kernel) (by decide +kernel)
theorem G_ml_X4_3 : Cond.methodLink RX4 3 objectInit ∈ G := mem_G 203 (by decide +kernel) (by decide +kernel)
theorem G_fl_X4_9 : Cond.fieldLink RX4 9 "TurningFractions$Period" "digits" "[I" ∈ G := mem_G 204 (by decide +kernel) (by decide +kernel)
theorem G_fl_X4_15 : Cond.fieldLink RX4 15 "TurningFractions$Period" "length" "I" ∈ G := mem_G 205 (by decide +kernel) (by decide +kernel)
theorem G_kl_X8_69 : Cond.classLink RX8 69 RX1 ∈ G := mem_G 211 (by decide +kernel) (by decide +kernel)
theorem G_is_X2 : Cond.instantiable RX2 4 ∈ G := mem_G 213 (by decide +kernel) (by decide +kernel)
theorem G_im_X2_init : Cond.instanceMethod yX2_init ∈ G := mem_G 215 (by decide +kernel) (by decide +kernel)
theorem G_cd_X2_init : Cond.code yX2_init cX2_init 1 none ∈ G := mem_G 216 (by decide +kernel) (by decide +kernel)
theorem G_ml_X2_3 : Cond.methodLink RX2 3 objectInit ∈ G := mem_G 217 (by decide +kernel) (by decide +kernel)
theorem G_kl_X2_15 : Cond.classLink RX2 15 RX1 ∈ G := mem_G 218 (by decide +kernel) (by decide +kernel)
theorem G_fl_X2_9 : Cond.fieldLink RX2 9 "TurningFractions$Holder" "held" "I" ∈ G := mem_G 220 (by decide +kernel) (by decide +kernel)
theorem G_fl_X8_260 : Cond.fieldLink RX8 260 "TurningFractions$Holder" "held" "I" ∈ G := mem_G 221 (by decide +kernel) (by decide +kernel)
theorem G_fl_X2_18 : Cond.fieldLink RX2 18 "TurningFractions$Holder" "fraction" "LTurningFractions$Fraction;" ∈ G := mem_G 222 (by decide +kernel) (by decide +kernel)
theorem G_fl_X8_266 : Cond.fieldLink RX8 266 "TurningFractions$Holder" "fraction" "LTurningFractions$Fraction;" ∈ G := mem_G 223 (by decide +kernel) (by decide +kernel)
theorem G_fl_X2_22 : Cond.fieldLink RX2 22 "TurningFractions$Holder" "row" "[I" ∈ G := mem_G 224 (by decide +kernel) (by decide +kernel)
theorem G_fl_X8_275 : Cond.fieldLink RX8 275 "TurningFractions$Holder" "row" "[I" ∈ G := mem_G 225 (by decide +kernel) (by decide +kernel)
theorem G_fl_X2_26 : Cond.fieldLink RX2 26 "TurningFractions$Holder" "rowLength" "I" ∈ G := mem_G 226 (by decide +kernel) (by decide +kernel)
theorem G_fl_X8_12 : Cond.fieldLink RX8 12 "TurningFractions" "fractions" "LTurningFractions$Shelf;" ∈ G := mem_G 236 (by decide +kernel) (by decide +kernel)
theorem G_fl_X8_21 : Cond.fieldLink RX8 21 "TurningFractions" "denominators" "LTurningFractions$Denominators;" ∈ G := mem_G 237 (by decide +kernel) (by decide +kernel)
theorem G_fl_X8_28 : Cond.fieldLink RX8 28 "TurningFractions" "tape" "LTurningFractions$Tape;" ∈ G := mem_G 238 (by decide +kernel) (by decide +kernel)
theorem G_fl_X8_35 : Cond.fieldLink RX8 35 "TurningFractions" "numeral" "LTurningFractions$Numeral;" ∈ G := mem_G 239 (by decide +kernel) (by decide +kernel)
theorem G_fl_X8_42 : Cond.fieldLink RX8 42 "TurningFractions" "script" "LTurningFractions$Script;" ∈ G := mem_G 240 (by decide +kernel) (by decide +kernel)
theorem G_fl_X8_48 : Cond.fieldLink RX8 48 "TurningFractions" "holders" "[LTurningFractions$Holder;" ∈ G := mem_G 241 (by decide +kernel) (by decide +kernel)
theorem G_fl_X8_52 : Cond.fieldLink RX8 52 "TurningFractions" "keptFractions" "LTurningFractions$Shelf;" ∈ G := mem_G 242 (by decide +kernel) (by decide +kernel)
theorem G_fl_X8_55 : Cond.fieldLink RX8 55 "TurningFractions" "keptDenominators" "LTurningFractions$Denominators;" ∈ G := mem_G 243 (by decide +kernel) (by decide +kernel)
theorem G_fl_X8_58 : Cond.fieldLink RX8 58 "TurningFractions" "imageIsKept" "Z" ∈ G := mem_G 244 (by decide +kernel) (by decide +kernel)
theorem G_fl_X8_65 : Cond.fieldLink RX8 65 "TurningFractions" "period" "LTurningFractions$Period;" ∈ G := mem_G 245 (by decide +kernel) (by decide +kernel)
theorem G_fl_X8_72 : Cond.fieldLink RX8 72 "TurningFractions" "unit" "LTurningFractions$Fraction;" ∈ G := mem_G 246 (by decide +kernel) (by decide +kernel)
theorem G_fl_X8_76 : Cond.fieldLink RX8 76 "TurningFractions" "ringed" "[I" ∈ G := mem_G 247 (by decide +kernel) (by decide +kernel)
theorem G_ml_L_13 : Cond.methodLink RL 13 yX8_fraction ∈ G := mem_G 273 (by decide +kernel) (by decide +kernel)
theorem G_im_X8_fraction : Cond.instanceMethod yX8_fraction ∈ G := mem_G 274 (by decide +kernel) (by decide +kernel)
theorem G_se_X8_fraction : Cond.selects RX8 yX8_fraction yX8_fraction ∈ G := mem_G 275 (by decide +kernel) (by decide +kernel)
theorem G_cd_X8_fraction : Cond.code yX8_fraction cX8_fraction 4 (some .int) ∈ G := mem_G 276 (by decide +kernel) (by decide +kernel)
theorem G_ml_X8_81 : Cond.methodLink RX8 81 yX8_isWithin ∈ G := mem_G 277 (by decide +kernel) (by decide +kernel)
theorem G_st_X8_isWithin : Cond.static yX8_isWithin ∈ G := mem_G 278 (by decide +kernel) (by decide +kernel)
theorem G_cd_X8_isWithin : Cond.code yX8_isWithin cX8_isWithin 3 (some .boolean) ∈ G := mem_G 279 (by decide +kernel) (by decide +kernel)
theorem G_ml_X8_85 : Cond.methodLink RX8 85 yX8_isBase ∈ G := mem_G 280 (by decide +kernel) (by decide +kernel)
theorem G_st_X8_isBase : Cond.static yX8_isBase ∈ G := mem_G 281 (by decide +kernel) (by decide +kernel)
theorem G_cd_X8_isBase : Cond.code yX8_isBase cX8_isBase 1 (some .boolean) ∈ G := mem_G 282 (by decide +kernel) (by decide +kernel)
theorem G_ml_X8_89 : Cond.methodLink RX8 89 yX6_add ∈ G := mem_G 283 (by decide +kernel) (by decide +kernel)
theorem G_im_X6_add : Cond.instanceMethod yX6_add ∈ G := mem_G 284 (by decide +kernel) (by decide +kernel)
theorem G_se_X6_add : Cond.selects RX6 yX6_add yX6_add ∈ G := mem_G 285 (by decide +kernel) (by decide +kernel)
theorem G_cd_X6_add : Cond.code yX6_add cX6_add 4 (some .int) ∈ G := mem_G 286 (by decide +kernel) (by decide +kernel)
theorem G_ml_X6_22 : Cond.methodLink RX6 22 yX1_become ∈ G := mem_G 287 (by decide +kernel) (by decide +kernel)
theorem G_im_X1_become : Cond.instanceMethod yX1_become ∈ G := mem_G 288 (by decide +kernel) (by decide +kernel)
theorem G_se_X1_become : Cond.selects RX1 yX1_become yX1_become ∈ G := mem_G 289 (by decide +kernel) (by decide +kernel)
theorem G_cd_X1_become : Cond.code yX1_become cX1_become 5 none ∈ G := mem_G 290 (by decide +kernel) (by decide +kernel)
theorem G_st_X8_power : Cond.static yX8_power ∈ G := mem_G 292 (by decide +kernel) (by decide +kernel)
theorem G_cd_X8_power : Cond.code yX8_power cX8_power 5 (some .long) ∈ G := mem_G 293 (by decide +kernel) (by decide +kernel)
theorem G_st_X8_commonDivisor : Cond.static yX8_commonDivisor ∈ G := mem_G 295 (by decide +kernel) (by decide +kernel)
theorem G_cd_X8_commonDivisor : Cond.code yX8_commonDivisor cX8_commonDivisor 11 (some .long) ∈ G := mem_G 296 (by decide +kernel) (by decide +kernel)
theorem G_st_X8_remainder : Cond.static yX8_remainder ∈ G := mem_G 298 (by decide +kernel) (by decide +kernel)
theorem G_cd_X8_remainder : Cond.code yX8_remainder cX8_remainder 2 (some .int) ∈ G := mem_G 299 (by decide +kernel) (by decide +kernel)
theorem G_ml_X1_45 : Cond.methodLink RX1 45 yX1_turns ∈ G := mem_G 300 (by decide +kernel) (by decide +kernel)
theorem G_im_X1_turns : Cond.instanceMethod yX1_turns ∈ G := mem_G 302 (by decide +kernel) (by decide +kernel)
theorem G_cd_X1_turns : Cond.code yX1_turns cX1_turns 2 (some .boolean) ∈ G := mem_G 303 (by decide +kernel) (by decide +kernel)
theorem G_ml_X1_49 : Cond.methodLink RX1 49 yX1_restAfter ∈ G := mem_G 304 (by decide +kernel) (by decide +kernel)
theorem G_im_X1_restAfter : Cond.instanceMethod yX1_restAfter ∈ G := mem_G 305 (by decide +kernel) (by decide +kernel)
theorem G_se_X1_restAfter : Cond.selects RX1 yX1_restAfter yX1_restAfter ∈ G := mem_G 306 (by decide +kernel) (by decide +kernel)
theorem G_cd_X1_restAfter : Cond.code yX1_restAfter cX1_restAfter 2 (some .int) ∈ G := mem_G 307 (by decide +kernel) (by decide +kernel)
theorem G_ml_L_18 : Cond.methodLink RL 18 yX8_drop ∈ G := mem_G 308 (by decide +kernel) (by decide +kernel)
theorem G_im_X8_drop : Cond.instanceMethod yX8_drop ∈ G := mem_G 309 (by decide +kernel) (by decide +kernel)
theorem G_se_X8_drop : Cond.selects RX8 yX8_drop yX8_drop ∈ G := mem_G 310 (by decide +kernel) (by decide +kernel)
theorem G_cd_X8_drop : Cond.code yX8_drop cX8_drop 2 (some .int) ∈ G := mem_G 311 (by decide +kernel) (by decide +kernel)
theorem G_ml_X8_93 : Cond.methodLink RX8 93 yX6_takeAway ∈ G := mem_G 312 (by decide +kernel) (by decide +kernel)
theorem G_im_X6_takeAway : Cond.instanceMethod yX6_takeAway ∈ G := mem_G 313 (by decide +kernel) (by decide +kernel)
theorem G_se_X6_takeAway : Cond.selects RX6 yX6_takeAway yX6_takeAway ∈ G := mem_G 314 (by decide +kernel) (by decide +kernel)
theorem G_cd_X6_takeAway : Cond.code yX6_takeAway cX6_takeAway 3 (some .int) ∈ G := mem_G 315 (by decide +kernel) (by decide +kernel)
theorem G_ml_X6_26 : Cond.methodLink RX6 26 yX6_at ∈ G := mem_G 316 (by decide +kernel) (by decide +kernel)
theorem G_im_X6_at : Cond.instanceMethod yX6_at ∈ G := mem_G 317 (by decide +kernel) (by decide +kernel)
theorem G_se_X6_at : Cond.selects RX6 yX6_at yX6_at ∈ G := mem_G 318 (by decide +kernel) (by decide +kernel)
theorem G_cd_X6_at : Cond.code yX6_at cX6_at 2 (some (.object "TurningFractions$Fraction")) ∈ G := mem_G 319 (by decide +kernel) (by decide +kernel)
theorem G_ml_X6_30 : Cond.methodLink RX6 30 yX1_becomeLike ∈ G := mem_G 320 (by decide +kernel) (by decide +kernel)
theorem G_im_X1_becomeLike : Cond.instanceMethod yX1_becomeLike ∈ G := mem_G 321 (by decide +kernel) (by decide +kernel)
theorem G_se_X1_becomeLike : Cond.selects RX1 yX1_becomeLike yX1_becomeLike ∈ G := mem_G 322 (by decide +kernel) (by decide +kernel)
theorem G_cd_X1_becomeLike : Cond.code yX1_becomeLike cX1_becomeLike 2 none ∈ G := mem_G 323 (by decide +kernel) (by decide +kernel)
theorem G_ml_L_23 : Cond.methodLink RL 23 yX8_multiply ∈ G := mem_G 324 (by decide +kernel) (by decide +kernel)
theorem G_im_X8_multiply : Cond.instanceMethod yX8_multiply ∈ G := mem_G 325 (by decide +kernel) (by decide +kernel)
theorem G_se_X8_multiply : Cond.selects RX8 yX8_multiply yX8_multiply ∈ G := mem_G 326 (by decide +kernel) (by decide +kernel)
theorem G_cd_X8_multiply : Cond.code yX8_multiply cX8_multiply 5 (some .int) ∈ G := mem_G 327 (by decide +kernel) (by decide +kernel)
theorem G_ml_X8_97 : Cond.methodLink RX8 97 yX6_at ∈ G := mem_G 328 (by decide +kernel) (by decide +kernel)
theorem G_ml_X8_111 : Cond.methodLink RX8 111 yX1_become ∈ G := mem_G 329 (by decide +kernel) (by decide +kernel)
theorem G_ml_L_28 : Cond.methodLink RL 28 yX8_sum ∈ G := mem_G 330 (by decide +kernel) (by decide +kernel)
theorem G_im_X8_sum : Cond.instanceMethod yX8_sum ∈ G := mem_G 331 (by decide +kernel) (by decide +kernel)
theorem G_se_X8_sum : Cond.selects RX8 yX8_sum yX8_sum ∈ G := mem_G 332 (by decide +kernel) (by decide +kernel)
theorem G_cd_X8_sum : Cond.code yX8_sum cX8_sum 6 (some .int) ∈ G := mem_G 333 (by decide +kernel) (by decide +kernel)
theorem G_ml_X8_115 : Cond.methodLink RX8 115 yX8_addInLowestTerms ∈ G := mem_G 334 (by decide +kernel) (by decide +kernel)
theorem G_im_X8_addInLowestTerms : Cond.instanceMethod yX8_addInLowestTerms ∈ G := mem_G 336 (by decide +kernel) (by decide +kernel)
theorem G_cd_X8_addInLowestTerms : Cond.code yX8_addInLowestTerms cX8_addInLowestTerms 12 (some .int) ∈ G := mem_G 337 (by decide +kernel) (by decide +kernel)
theorem G_ml_X8_119 : Cond.methodLink RX8 119 yX8_commonDivisor ∈ G := mem_G 338 (by decide +kernel) (by decide +kernel)
theorem G_ml_X8_123 : Cond.methodLink RX8 123 yX8_quotient ∈ G := mem_G 339 (by decide +kernel) (by decide +kernel)
theorem G_st_X8_quotient : Cond.static yX8_quotient ∈ G := mem_G 340 (by decide +kernel) (by decide +kernel)
theorem G_cd_X8_quotient : Cond.code yX8_quotient cX8_quotient 4 (some .long) ∈ G := mem_G 341 (by decide +kernel) (by decide +kernel)
theorem G_co_X8_291 : Cond.constantLong RX8 291 (9999 : Int64) ∈ G := mem_G 342 (by decide +kernel) (by decide +kernel)
theorem G_co_X8_293 : Cond.constantLong RX8 293 (999 : Int64) ∈ G := mem_G 343 (by decide +kernel) (by decide +kernel)
theorem G_ml_L_32 : Cond.methodLink RL 32 yX8_lowest ∈ G := mem_G 344 (by decide +kernel) (by decide +kernel)
theorem G_im_X8_lowest : Cond.instanceMethod yX8_lowest ∈ G := mem_G 345 (by decide +kernel) (by decide +kernel)
theorem G_se_X8_lowest : Cond.selects RX8 yX8_lowest yX8_lowest ∈ G := mem_G 346 (by decide +kernel) (by decide +kernel)
theorem G_cd_X8_lowest : Cond.code yX8_lowest cX8_lowest 5 (some .int) ∈ G := mem_G 347 (by decide +kernel) (by decide +kernel)
theorem G_ml_L_36 : Cond.methodLink RL 36 yX8_of ∈ G := mem_G 348 (by decide +kernel) (by decide +kernel)
theorem G_im_X8_of : Cond.instanceMethod yX8_of ∈ G := mem_G 349 (by decide +kernel) (by decide +kernel)
theorem G_se_X8_of : Cond.selects RX8 yX8_of yX8_of ∈ G := mem_G 350 (by decide +kernel) (by decide +kernel)
theorem G_cd_X8_of : Cond.code yX8_of cX8_of 4 (some .int) ∈ G := mem_G 351 (by decide +kernel) (by decide +kernel)
theorem G_ml_X8_126 : Cond.methodLink RX8 126 yX1_whole ∈ G := mem_G 352 (by decide +kernel) (by decide +kernel)
theorem G_im_X1_whole : Cond.instanceMethod yX1_whole ∈ G := mem_G 353 (by decide +kernel) (by decide +kernel)
theorem G_se_X1_whole : Cond.selects RX1 yX1_whole yX1_whole ∈ G := mem_G 354 (by decide +kernel) (by decide +kernel)
theorem G_cd_X1_whole : Cond.code yX1_whole cX1_whole 1 (some .int) ∈ G := mem_G 355 (by decide +kernel) (by decide +kernel)
theorem G_ml_X8_136 : Cond.methodLink RX8 136 yX1_kind ∈ G := mem_G 357 (by decide +kernel) (by decide +kernel)
theorem G_im_X1_kind : Cond.instanceMethod yX1_kind ∈ G := mem_G 358 (by decide +kernel) (by decide +kernel)
theorem G_se_X1_kind : Cond.selects RX1 yX1_kind yX1_kind ∈ G := mem_G 359 (by decide +kernel) (by decide +kernel)
theorem G_cd_X1_kind : Cond.code yX1_kind cX1_kind 1 (some .int) ∈ G := mem_G 360 (by decide +kernel) (by decide +kernel)
theorem G_ml_X1_56 : Cond.methodLink RX1 56 yX1_ends ∈ G := mem_G 361 (by decide +kernel) (by decide +kernel)
theorem G_im_X1_ends : Cond.instanceMethod yX1_ends ∈ G := mem_G 362 (by decide +kernel) (by decide +kernel)
theorem G_se_X1_ends : Cond.selects RX1 yX1_ends yX1_ends ∈ G := mem_G 363 (by decide +kernel) (by decide +kernel)
theorem G_cd_X1_ends : Cond.code yX1_ends cX1_ends 1 (some .boolean) ∈ G := mem_G 364 (by decide +kernel) (by decide +kernel)
theorem G_ml_L_40 : Cond.methodLink RL 40 yX8_digit ∈ G := mem_G 365 (by decide +kernel) (by decide +kernel)
theorem G_im_X8_digit : Cond.instanceMethod yX8_digit ∈ G := mem_G 366 (by decide +kernel) (by decide +kernel)
theorem G_se_X8_digit : Cond.selects RX8 yX8_digit yX8_digit ∈ G := mem_G 367 (by decide +kernel) (by decide +kernel)
theorem G_cd_X8_digit : Cond.code yX8_digit cX8_digit 4 (some .int) ∈ G := mem_G 368 (by decide +kernel) (by decide +kernel)
theorem G_ml_X8_139 : Cond.methodLink RX8 139 yX1_restAt ∈ G := mem_G 369 (by decide +kernel) (by decide +kernel)
theorem G_im_X1_restAt : Cond.instanceMethod yX1_restAt ∈ G := mem_G 370 (by decide +kernel) (by decide +kernel)
theorem G_se_X1_restAt : Cond.selects RX1 yX1_restAt yX1_restAt ∈ G := mem_G 371 (by decide +kernel) (by decide +kernel)
theorem G_cd_X1_restAt : Cond.code yX1_restAt cX1_restAt 5 (some .int) ∈ G := mem_G 372 (by decide +kernel) (by decide +kernel)
theorem G_ml_X8_142 : Cond.methodLink RX8 142 yX1_digitOf ∈ G := mem_G 373 (by decide +kernel) (by decide +kernel)
theorem G_im_X1_digitOf : Cond.instanceMethod yX1_digitOf ∈ G := mem_G 374 (by decide +kernel) (by decide +kernel)
theorem G_se_X1_digitOf : Cond.selects RX1 yX1_digitOf yX1_digitOf ∈ G := mem_G 375 (by decide +kernel) (by decide +kernel)
theorem G_cd_X1_digitOf : Cond.code yX1_digitOf cX1_digitOf 2 (some .int) ∈ G := mem_G 376 (by decide +kernel) (by decide +kernel)
theorem G_ml_L_44 : Cond.methodLink RL 44 yX8_rest ∈ G := mem_G 377 (by decide +kernel) (by decide +kernel)
theorem G_im_X8_rest : Cond.instanceMethod yX8_rest ∈ G := mem_G 378 (by decide +kernel) (by decide +kernel)
theorem G_se_X8_rest : Cond.selects RX8 yX8_rest yX8_rest ∈ G := mem_G 379 (by decide +kernel) (by decide +kernel)
theorem G_cd_X8_rest : Cond.code yX8_rest cX8_rest 4 (some .int) ∈ G := mem_G 380 (by decide +kernel) (by decide +kernel)
theorem G_ml_L_48 : Cond.methodLink RL 48 yX8_place ∈ G := mem_G 381 (by decide +kernel) (by decide +kernel)
theorem G_im_X8_place : Cond.instanceMethod yX8_place ∈ G := mem_G 382 (by decide +kernel) (by decide +kernel)
theorem G_se_X8_place : Cond.selects RX8 yX8_place yX8_place ∈ G := mem_G 383 (by decide +kernel) (by decide +kernel)
theorem G_cd_X8_place : Cond.code yX8_place cX8_place 4 (some .int) ∈ G := mem_G 384 (by decide +kernel) (by decide +kernel)
theorem G_ml_X8_145 : Cond.methodLink RX8 145 yX1_placeOfDigit ∈ G := mem_G 385 (by decide +kernel) (by decide +kernel)
theorem G_im_X1_placeOfDigit : Cond.instanceMethod yX1_placeOfDigit ∈ G := mem_G 386 (by decide +kernel) (by decide +kernel)
theorem G_se_X1_placeOfDigit : Cond.selects RX1 yX1_placeOfDigit yX1_placeOfDigit ∈ G := mem_G 387 (by decide +kernel) (by decide +kernel)
theorem G_cd_X1_placeOfDigit : Cond.code yX1_placeOfDigit cX1_placeOfDigit 4 (some .int) ∈ G := mem_G 388 (by decide +kernel) (by decide +kernel)
theorem G_ml_X1_60 : Cond.methodLink RX1 60 yX1_digitOf ∈ G := mem_G 389 (by decide +kernel) (by decide +kernel)
theorem G_ml_L_52 : Cond.methodLink RL 52 yX8_block ∈ G := mem_G 390 (by decide +kernel) (by decide +kernel)
theorem G_im_X8_block : Cond.instanceMethod yX8_block ∈ G := mem_G 391 (by decide +kernel) (by decide +kernel)
theorem G_se_X8_block : Cond.selects RX8 yX8_block yX8_block ∈ G := mem_G 392 (by decide +kernel) (by decide +kernel)
theorem G_cd_X8_block : Cond.code yX8_block cX8_block 5 (some .int) ∈ G := mem_G 393 (by decide +kernel) (by decide +kernel)
theorem G_ml_X8_148 : Cond.methodLink RX8 148 yX1_partsInto ∈ G := mem_G 394 (by decide +kernel) (by decide +kernel)
theorem G_im_X1_partsInto : Cond.instanceMethod yX1_partsInto ∈ G := mem_G 395 (by decide +kernel) (by decide +kernel)
theorem G_se_X1_partsInto : Cond.selects RX1 yX1_partsInto yX1_partsInto ∈ G := mem_G 396 (by decide +kernel) (by decide +kernel)
theorem G_cd_X1_partsInto : Cond.code yX1_partsInto cX1_partsInto 2 (some .boolean) ∈ G := mem_G 397 (by decide +kernel) (by decide +kernel)
theorem G_ml_X8_151 : Cond.methodLink RX8 151 yX1_blockWidth ∈ G := mem_G 399 (by decide +kernel) (by decide +kernel)
theorem G_im_X1_blockWidth : Cond.instanceMethod yX1_blockWidth ∈ G := mem_G 400 (by decide +kernel) (by decide +kernel)
theorem G_se_X1_blockWidth : Cond.selects RX1 yX1_blockWidth yX1_blockWidth ∈ G := mem_G 401 (by decide +kernel) (by decide +kernel)
theorem G_cd_X1_blockWidth : Cond.code yX1_blockWidth cX1_blockWidth 2 (some .int) ∈ G := mem_G 402 (by decide +kernel) (by decide +kernel)
theorem G_ml_X8_154 : Cond.methodLink RX8 154 yX4_load ∈ G := mem_G 403 (by decide +kernel) (by decide +kernel)
theorem G_im_X4_load : Cond.instanceMethod yX4_load ∈ G := mem_G 404 (by decide +kernel) (by decide +kernel)
theorem G_se_X4_load : Cond.selects RX4 yX4_load yX4_load ∈ G := mem_G 405 (by decide +kernel) (by decide +kernel)
theorem G_cd_X4_load : Cond.code yX4_load cX4_load 4 none ∈ G := mem_G 406 (by decide +kernel) (by decide +kernel)
theorem G_ml_X4_25 : Cond.methodLink RX4 25 yX1_digitOf ∈ G := mem_G 407 (by decide +kernel) (by decide +kernel)
theorem G_st_X8_setAt : Cond.static yX8_setAt ∈ G := mem_G 409 (by decide +kernel) (by decide +kernel)
theorem G_cd_X8_setAt : Cond.code yX8_setAt cX8_setAt 3 none ∈ G := mem_G 410 (by decide +kernel) (by decide +kernel)
theorem G_ml_X4_33 : Cond.methodLink RX4 33 yX1_restAfter ∈ G := mem_G 411 (by decide +kernel) (by decide +kernel)
theorem G_ml_X8_158 : Cond.methodLink RX8 158 yX4_placeOfBlocks ∈ G := mem_G 412 (by decide +kernel) (by decide +kernel)
theorem G_im_X4_placeOfBlocks : Cond.instanceMethod yX4_placeOfBlocks ∈ G := mem_G 413 (by decide +kernel) (by decide +kernel)
theorem G_se_X4_placeOfBlocks : Cond.selects RX4 yX4_placeOfBlocks yX4_placeOfBlocks ∈ G := mem_G 414 (by decide +kernel) (by decide +kernel)
theorem G_cd_X4_placeOfBlocks : Cond.code yX4_placeOfBlocks cX4_placeOfBlocks 9 (some .int) ∈ G := mem_G 415 (by decide +kernel) (by decide +kernel)
theorem G_st_X8_valueAt : Cond.static yX8_valueAt ∈ G := mem_G 417 (by decide +kernel) (by decide +kernel)
theorem G_cd_X8_valueAt : Cond.code yX8_valueAt cX8_valueAt 2 (some .int) ∈ G := mem_G 418 (by decide +kernel) (by decide +kernel)
theorem G_ml_L_56 : Cond.methodLink RL 56 yX8_nines ∈ G := mem_G 421 (by decide +kernel) (by decide +kernel)
theorem G_im_X8_nines : Cond.instanceMethod yX8_nines ∈ G := mem_G 422 (by decide +kernel) (by decide +kernel)
theorem G_se_X8_nines : Cond.selects RX8 yX8_nines yX8_nines ∈ G := mem_G 423 (by decide +kernel) (by decide +kernel)
theorem G_cd_X8_nines : Cond.code yX8_nines cX8_nines 4 (some .int) ∈ G := mem_G 424 (by decide +kernel) (by decide +kernel)
theorem G_ml_X8_162 : Cond.methodLink RX8 162 yX1_ninesOfBlocks ∈ G := mem_G 425 (by decide +kernel) (by decide +kernel)
theorem G_im_X1_ninesOfBlocks : Cond.instanceMethod yX1_ninesOfBlocks ∈ G := mem_G 426 (by decide +kernel) (by decide +kernel)
theorem G_se_X1_ninesOfBlocks : Cond.selects RX1 yX1_ninesOfBlocks yX1_ninesOfBlocks ∈ G := mem_G 427 (by decide +kernel) (by decide +kernel)
theorem G_cd_X1_ninesOfBlocks : Cond.code yX1_ninesOfBlocks cX1_ninesOfBlocks 6 (some .int) ∈ G := mem_G 428 (by decide +kernel) (by decide +kernel)
theorem G_ml_X1_67 : Cond.methodLink RX1 67 yX1_blockWidth ∈ G := mem_G 429 (by decide +kernel) (by decide +kernel)
theorem G_ml_L_60 : Cond.methodLink RL 60 yX8_shift ∈ G := mem_G 430 (by decide +kernel) (by decide +kernel)
theorem G_im_X8_shift : Cond.instanceMethod yX8_shift ∈ G := mem_G 431 (by decide +kernel) (by decide +kernel)
theorem G_se_X8_shift : Cond.selects RX8 yX8_shift yX8_shift ∈ G := mem_G 432 (by decide +kernel) (by decide +kernel)
theorem G_cd_X8_shift : Cond.code yX8_shift cX8_shift 4 (some .int) ∈ G := mem_G 433 (by decide +kernel) (by decide +kernel)
theorem G_ml_X8_165 : Cond.methodLink RX8 165 yX1_turningRestTimes ∈ G := mem_G 434 (by decide +kernel) (by decide +kernel)
theorem G_im_X1_turningRestTimes : Cond.instanceMethod yX1_turningRestTimes ∈ G := mem_G 435 (by decide +kernel) (by decide +kernel)
theorem G_se_X1_turningRestTimes : Cond.selects RX1 yX1_turningRestTimes yX1_turningRestTimes ∈ G := mem_G 436 (by decide +kernel) (by decide +kernel)
theorem G_cd_X1_turningRestTimes : Cond.code yX1_turningRestTimes cX1_turningRestTimes 4 (some .int) ∈ G := mem_G 437 (by decide +kernel) (by decide +kernel)
theorem G_ml_X8_168 : Cond.methodLink RX8 168 yX1_placeInPeriod ∈ G := mem_G 438 (by decide +kernel) (by decide +kernel)
theorem G_im_X1_placeInPeriod : Cond.instanceMethod yX1_placeInPeriod ∈ G := mem_G 439 (by decide +kernel) (by decide +kernel)
theorem G_se_X1_placeInPeriod : Cond.selects RX1 yX1_placeInPeriod yX1_placeInPeriod ∈ G := mem_G 440 (by decide +kernel) (by decide +kernel)
theorem G_cd_X1_placeInPeriod : Cond.code yX1_placeInPeriod cX1_placeInPeriod 4 (some .int) ∈ G := mem_G 441 (by decide +kernel) (by decide +kernel)
theorem G_ml_L_64 : Cond.methodLink RL 64 yX8_multiple ∈ G := mem_G 442 (by decide +kernel) (by decide +kernel)
theorem G_im_X8_multiple : Cond.instanceMethod yX8_multiple ∈ G := mem_G 443 (by decide +kernel) (by decide +kernel)
theorem G_se_X8_multiple : Cond.selects RX8 yX8_multiple yX8_multiple ∈ G := mem_G 444 (by decide +kernel) (by decide +kernel)
theorem G_cd_X8_multiple : Cond.code yX8_multiple cX8_multiple 6 (some .int) ∈ G := mem_G 445 (by decide +kernel) (by decide +kernel)
theorem G_ml_L_68 : Cond.methodLink RL 68 yX8_order ∈ G := mem_G 446 (by decide +kernel) (by decide +kernel)
theorem G_im_X8_order : Cond.instanceMethod yX8_order ∈ G := mem_G 447 (by decide +kernel) (by decide +kernel)
theorem G_se_X8_order : Cond.selects RX8 yX8_order yX8_order ∈ G := mem_G 448 (by decide +kernel) (by decide +kernel)
theorem G_cd_X8_order : Cond.code yX8_order cX8_order 6 (some .int) ∈ G := mem_G 449 (by decide +kernel) (by decide +kernel)
theorem G_ml_X8_171 : Cond.methodLink RX8 171 yX8_remainder ∈ G := mem_G 450 (by decide +kernel) (by decide +kernel)
theorem G_ml_L_72 : Cond.methodLink RL 72 yX8_cycles ∈ G := mem_G 451 (by decide +kernel) (by decide +kernel)
theorem G_im_X8_cycles : Cond.instanceMethod yX8_cycles ∈ G := mem_G 452 (by decide +kernel) (by decide +kernel)
theorem G_se_X8_cycles : Cond.selects RX8 yX8_cycles yX8_cycles ∈ G := mem_G 453 (by decide +kernel) (by decide +kernel)
theorem G_cd_X8_cycles : Cond.code yX8_cycles cX8_cycles 8 (some .int) ∈ G := mem_G 454 (by decide +kernel) (by decide +kernel)
theorem G_ml_X8_175 : Cond.methodLink RX8 175 yX8_setAt ∈ G := mem_G 455 (by decide +kernel) (by decide +kernel)
theorem G_ml_X8_179 : Cond.methodLink RX8 179 yX8_markRing ∈ G := mem_G 456 (by decide +kernel) (by decide +kernel)
theorem G_im_X8_markRing : Cond.instanceMethod yX8_markRing ∈ G := mem_G 458 (by decide +kernel) (by decide +kernel)
theorem G_cd_X8_markRing : Cond.code yX8_markRing cX8_markRing 6 (some .int) ∈ G := mem_G 459 (by decide +kernel) (by decide +kernel)
theorem G_ml_X8_216 : Cond.methodLink RX8 216 yX8_valueAt ∈ G := mem_G 460 (by decide +kernel) (by decide +kernel)
theorem G_ml_X8_182 : Cond.methodLink RX8 182 yJ9_max_7cf53 ∈ G := mem_G 461 (by decide +kernel) (by decide +kernel)
theorem G_st_J9_max_7cf53 : Cond.static yJ9_max_7cf53 ∈ G := mem_G 462 (by decide +kernel) (by decide +kernel)
theorem G_cd_J9_max_7cf53 : Cond.code yJ9_max_7cf53 cJ9_max_7cf53 2 (some .int) ∈ G := mem_G 463 (by decide +kernel) (by decide +kernel)
theorem G_ml_L_76 : Cond.methodLink RL 76 yX8_full ∈ G := mem_G 464 (by decide +kernel) (by decide +kernel)
theorem G_im_X8_full : Cond.instanceMethod yX8_full ∈ G := mem_G 465 (by decide +kernel) (by decide +kernel)
theorem G_se_X8_full : Cond.selects RX8 yX8_full yX8_full ∈ G := mem_G 466 (by decide +kernel) (by decide +kernel)
theorem G_cd_X8_full : Cond.code yX8_full cX8_full 10 (some .int) ∈ G := mem_G 467 (by decide +kernel) (by decide +kernel)
theorem G_ml_X8_187 : Cond.methodLink RX8 187 yX1_isFullUnit ∈ G := mem_G 468 (by decide +kernel) (by decide +kernel)
theorem G_im_X1_isFullUnit : Cond.instanceMethod yX1_isFullUnit ∈ G := mem_G 469 (by decide +kernel) (by decide +kernel)
theorem G_se_X1_isFullUnit : Cond.selects RX1 yX1_isFullUnit yX1_isFullUnit ∈ G := mem_G 470 (by decide +kernel) (by decide +kernel)
theorem G_cd_X1_isFullUnit : Cond.code yX1_isFullUnit cX1_isFullUnit 1 (some .boolean) ∈ G := mem_G 471 (by decide +kernel) (by decide +kernel)
theorem G_ml_L_81 : Cond.methodLink RL 81 yX8_list ∈ G := mem_G 472 (by decide +kernel) (by decide +kernel)
theorem G_im_X8_list : Cond.instanceMethod yX8_list ∈ G := mem_G 473 (by decide +kernel) (by decide +kernel)
theorem G_se_X8_list : Cond.selects RX8 yX8_list yX8_list ∈ G := mem_G 474 (by decide +kernel) (by decide +kernel)
theorem G_cd_X8_list : Cond.code yX8_list cX8_list 3 (some .int) ∈ G := mem_G 475 (by decide +kernel) (by decide +kernel)
theorem G_ml_X8_191 : Cond.methodLink RX8 191 yX0_fillTo ∈ G := mem_G 476 (by decide +kernel) (by decide +kernel)
theorem G_im_X0_fillTo : Cond.instanceMethod yX0_fillTo ∈ G := mem_G 477 (by decide +kernel) (by decide +kernel)
theorem G_se_X0_fillTo : Cond.selects RX0 yX0_fillTo yX0_fillTo ∈ G := mem_G 478 (by decide +kernel) (by decide +kernel)
theorem G_cd_X0_fillTo : Cond.code yX0_fillTo cX0_fillTo 4 none ∈ G := mem_G 479 (by decide +kernel) (by decide +kernel)
theorem G_ml_L_85 : Cond.methodLink RL 85 yX8_thin ∈ G := mem_G 481 (by decide +kernel) (by decide +kernel)
theorem G_im_X8_thin : Cond.instanceMethod yX8_thin ∈ G := mem_G 482 (by decide +kernel) (by decide +kernel)
theorem G_se_X8_thin : Cond.selects RX8 yX8_thin yX8_thin ∈ G := mem_G 483 (by decide +kernel) (by decide +kernel)
theorem G_cd_X8_thin : Cond.code yX8_thin cX8_thin 3 (some .int) ∈ G := mem_G 484 (by decide +kernel) (by decide +kernel)
theorem G_ml_X8_198 : Cond.methodLink RX8 198 yX7_bears ∈ G := mem_G 486 (by decide +kernel) (by decide +kernel)
theorem G_im_X7_bears : Cond.instanceMethod yX7_bears ∈ G := mem_G 487 (by decide +kernel) (by decide +kernel)
theorem G_se_X7_bears : Cond.selects RX7 yX7_bears yX7_bears ∈ G := mem_G 488 (by decide +kernel) (by decide +kernel)
theorem G_cd_X7_bears : Cond.code yX7_bears cX7_bears 5 (some .boolean) ∈ G := mem_G 489 (by decide +kernel) (by decide +kernel)
theorem G_ml_X7_34 : Cond.methodLink RX7 34 yJ0_length_8abf5 ∈ G := mem_G 490 (by decide +kernel) (by decide +kernel)
theorem G_im_J0_length_8abf5 : Cond.instanceMethod yJ0_length_8abf5 ∈ G := mem_G 491 (by decide +kernel) (by decide +kernel)
theorem G_se_J0_length_8abf5 : Cond.selects RJ0 yJ0_length_8abf5 yJ0_length_8abf5 ∈ G := mem_G 492 (by decide +kernel) (by decide +kernel)
theorem G_cd_J0_length_8abf5 : Cond.code yJ0_length_8abf5 cJ0_length_8abf5 1 (some .int) ∈ G := mem_G 493 (by decide +kernel) (by decide +kernel)
theorem G_ml_J0_335 : Cond.methodLink RJ0 335 yJ0_coder_7d493 ∈ G := mem_G 494 (by decide +kernel) (by decide +kernel)
theorem G_im_J0_coder_7d493 : Cond.instanceMethod yJ0_coder_7d493 ∈ G := mem_G 495 (by decide +kernel) (by decide +kernel)
theorem G_se_J0_coder_7d493 : Cond.selects RJ0 yJ0_coder_7d493 yJ0_coder_7d493 ∈ G := mem_G 496 (by decide +kernel) (by decide +kernel)
theorem G_cd_J0_coder_7d493 : Cond.code yJ0_coder_7d493 cJ0_coder_7d493 1 (some .byte) ∈ G := mem_G 497 (by decide +kernel) (by decide +kernel)
theorem G_fl_J0_38 : Cond.fieldLink RJ0 38 "java/lang/String" "COMPACT_STRINGS" "Z" ∈ G := mem_G 498 (by decide +kernel) (by decide +kernel)
theorem G_ml_X7_39 : Cond.methodLink RX7 39 yX7_byteAt ∈ G := mem_G 500 (by decide +kernel) (by decide +kernel)
theorem G_im_X7_byteAt : Cond.instanceMethod yX7_byteAt ∈ G := mem_G 501 (by decide +kernel) (by decide +kernel)
theorem G_se_X7_byteAt : Cond.selects RX7 yX7_byteAt yX7_byteAt ∈ G := mem_G 502 (by decide +kernel) (by decide +kernel)
theorem G_cd_X7_byteAt : Cond.code yX7_byteAt cX7_byteAt 2 (some .int) ∈ G := mem_G 503 (by decide +kernel) (by decide +kernel)
theorem G_ml_X7_43 : Cond.methodLink RX7 43 yJ0_charAt_5068e ∈ G := mem_G 505 (by decide +kernel) (by decide +kernel)
theorem G_im_J0_charAt_5068e : Cond.instanceMethod yJ0_charAt_5068e ∈ G := mem_G 506 (by decide +kernel) (by decide +kernel)
theorem G_se_J0_charAt_5068e : Cond.selects RJ0 yJ0_charAt_5068e yJ0_charAt_5068e ∈ G := mem_G 507 (by decide +kernel) (by decide +kernel)
theorem G_cd_J0_charAt_5068e : Cond.code yJ0_charAt_5068e cJ0_charAt_5068e 2 (some .char) ∈ G := mem_G 508 (by decide +kernel) (by decide +kernel)
theorem G_ml_J0_492 : Cond.methodLink RJ0 492 yJ0_isLatin1_aae02 ∈ G := mem_G 509 (by decide +kernel) (by decide +kernel)
theorem G_im_J0_isLatin1_aae02 : Cond.instanceMethod yJ0_isLatin1_aae02 ∈ G := mem_G 510 (by decide +kernel) (by decide +kernel)
theorem G_se_J0_isLatin1_aae02 : Cond.selects RJ0 yJ0_isLatin1_aae02 yJ0_isLatin1_aae02 ∈ G := mem_G 511 (by decide +kernel) (by decide +kernel)
theorem G_cd_J0_isLatin1_aae02 : Cond.code yJ0_isLatin1_aae02 cJ0_isLatin1_aae02 1 (some .boolean) ∈ G := mem_G 512 (by decide +kernel) (by decide +kernel)
theorem G_ml_J0_495 : Cond.methodLink RJ0 495 yJ1_charAt_3b067 ∈ G := mem_G 513 (by decide +kernel) (by decide +kernel)
theorem G_st_J1_charAt_3b067 : Cond.static yJ1_charAt_3b067 ∈ G := mem_G 514 (by decide +kernel) (by decide +kernel)
theorem G_cd_J1_charAt_3b067 : Cond.code yJ1_charAt_3b067 cJ1_charAt_3b067 2 (some .char) ∈ G := mem_G 515 (by decide +kernel) (by decide +kernel)
theorem G_ml_J1_9 : Cond.methodLink RJ1 9 yJ0_checkIndex_df160 ∈ G := mem_G 516 (by decide +kernel) (by decide +kernel)
theorem G_st_J0_checkIndex_df160 : Cond.static yJ0_checkIndex_df160 ∈ G := mem_G 517 (by decide +kernel) (by decide +kernel)
theorem G_cd_J0_checkIndex_df160 : Cond.code yJ0_checkIndex_df160 cJ0_checkIndex_df160 2 none ∈ G := mem_G 518 (by decide +kernel) (by decide +kernel)
theorem G_fl_J0_1053 : Cond.fieldLink RJ0 1053 "jdk/internal/util/Preconditions" "SIOOBE_FORMATTER" "Ljava/util/function/BiFunction;" ∈ G := mem_G 519 (by decide +kernel) (by decide +kernel)
theorem G_ml_J0_1059 : Cond.methodLink RJ0 1059 yJ3_checkIndex_8e157 ∈ G := mem_G 521 (by decide +kernel) (by decide +kernel)
theorem G_st_J3_checkIndex_8e157 : Cond.static yJ3_checkIndex_8e157 ∈ G := mem_G 522 (by decide +kernel) (by decide +kernel)
theorem G_cd_J3_checkIndex_8e157 : Cond.code yJ3_checkIndex_8e157 cJ3_checkIndex_8e157 3 (some .int) ∈ G := mem_G 523 (by decide +kernel) (by decide +kernel)
theorem G_ml_J0_498 : Cond.methodLink RJ0 498 yJ2_charAt_3b067 ∈ G := mem_G 524 (by decide +kernel) (by decide +kernel)
theorem G_st_J2_charAt_3b067 : Cond.static yJ2_charAt_3b067 ∈ G := mem_G 525 (by decide +kernel) (by decide +kernel)
theorem G_cd_J2_charAt_3b067 : Cond.code yJ2_charAt_3b067 cJ2_charAt_3b067 2 (some .char) ∈ G := mem_G 526 (by decide +kernel) (by decide +kernel)
theorem G_ml_J2_67 : Cond.methodLink RJ2 67 yJ2_checkIndex_2214a ∈ G := mem_G 527 (by decide +kernel) (by decide +kernel)
theorem G_st_J2_checkIndex_2214a : Cond.static yJ2_checkIndex_2214a ∈ G := mem_G 528 (by decide +kernel) (by decide +kernel)
theorem G_cd_J2_checkIndex_2214a : Cond.code yJ2_checkIndex_2214a cJ2_checkIndex_2214a 2 none ∈ G := mem_G 529 (by decide +kernel) (by decide +kernel)
theorem G_ml_J2_48 : Cond.methodLink RJ2 48 yJ2_length_9d52b ∈ G := mem_G 530 (by decide +kernel) (by decide +kernel)
theorem G_st_J2_length_9d52b : Cond.static yJ2_length_9d52b ∈ G := mem_G 531 (by decide +kernel) (by decide +kernel)
theorem G_cd_J2_length_9d52b : Cond.code yJ2_length_9d52b cJ2_length_9d52b 1 (some .int) ∈ G := mem_G 532 (by decide +kernel) (by decide +kernel)
theorem G_ml_J2_414 : Cond.methodLink RJ2 414 yJ0_checkIndex_df160 ∈ G := mem_G 533 (by decide +kernel) (by decide +kernel)
theorem G_ml_J2_71 : Cond.methodLink RJ2 71 yJ2_getChar_3b067 ∈ G := mem_G 534 (by decide +kernel) (by decide +kernel)
theorem G_st_J2_getChar_3b067 : Cond.static yJ2_getChar_3b067 ∈ G := mem_G 535 (by decide +kernel) (by decide +kernel)
theorem G_cd_J2_getChar_3b067 : Cond.code yJ2_getChar_3b067 cJ2_getChar_3b067 2 (some .char) ∈ G := mem_G 536 (by decide +kernel) (by decide +kernel)
theorem G_fl_J2_44 : Cond.fieldLink RJ2 44 "java/lang/StringUTF16" "$assertionsDisabled" "Z" ∈ G := mem_G 537 (by decide +kernel) (by decide +kernel)
theorem G_fl_J2_59 : Cond.fieldLink RJ2 59 "java/lang/StringUTF16" "HI_BYTE_SHIFT" "I" ∈ G := mem_G 539 (by decide +kernel) (by decide +kernel)
theorem G_fl_J2_63 : Cond.fieldLink RJ2 63 "java/lang/StringUTF16" "LO_BYTE_SHIFT" "I" ∈ G := mem_G 541 (by decide +kernel) (by decide +kernel)
theorem G_ml_X8_202 : Cond.methodLink RX8 202 yX0_wordOn ∈ G := mem_G 543 (by decide +kernel) (by decide +kernel)
theorem G_st_X0_wordOn : Cond.static yX0_wordOn ∈ G := mem_G 544 (by decide +kernel) (by decide +kernel)
theorem G_cd_X0_wordOn : Cond.code yX0_wordOn cX0_wordOn 3 (some .int) ∈ G := mem_G 545 (by decide +kernel) (by decide +kernel)
theorem G_ml_X0_40 : Cond.methodLink RX0 40 yX0_wordText ∈ G := mem_G 546 (by decide +kernel) (by decide +kernel)
theorem G_st_X0_wordText : Cond.static yX0_wordText ∈ G := mem_G 547 (by decide +kernel) (by decide +kernel)
theorem G_cd_X0_wordText : Cond.code yX0_wordText cX0_wordText 1 (some (.object "java/lang/String")) ∈ G := mem_G 548 (by decide +kernel) (by decide +kernel)
theorem G_ml_X0_44 : Cond.methodLink RX0 44 yX7_bears ∈ G := mem_G 557 (by decide +kernel) (by decide +kernel)
theorem G_ml_X8_206 : Cond.methodLink RX8 206 yX7_clear ∈ G := mem_G 558 (by decide +kernel) (by decide +kernel)
theorem G_im_X7_clear : Cond.instanceMethod yX7_clear ∈ G := mem_G 559 (by decide +kernel) (by decide +kernel)
theorem G_se_X7_clear : Cond.selects RX7 yX7_clear yX7_clear ∈ G := mem_G 560 (by decide +kernel) (by decide +kernel)
theorem G_cd_X7_clear : Cond.code yX7_clear cX7_clear 1 none ∈ G := mem_G 561 (by decide +kernel) (by decide +kernel)
theorem G_ml_X8_209 : Cond.methodLink RX8 209 yX0_keepOnly ∈ G := mem_G 562 (by decide +kernel) (by decide +kernel)
theorem G_im_X0_keepOnly : Cond.instanceMethod yX0_keepOnly ∈ G := mem_G 563 (by decide +kernel) (by decide +kernel)
theorem G_se_X0_keepOnly : Cond.selects RX0 yX0_keepOnly yX0_keepOnly ∈ G := mem_G 564 (by decide +kernel) (by decide +kernel)
theorem G_cd_X0_keepOnly : Cond.code yX0_keepOnly cX0_keepOnly 6 none ∈ G := mem_G 565 (by decide +kernel) (by decide +kernel)
theorem G_ml_X0_64 : Cond.methodLink RX0 64 yX0_isSo ∈ G := mem_G 567 (by decide +kernel) (by decide +kernel)
theorem G_im_X0_isSo : Cond.instanceMethod yX0_isSo ∈ G := mem_G 569 (by decide +kernel) (by decide +kernel)
theorem G_cd_X0_isSo : Cond.code yX0_isSo cX0_isSo 4 (some .boolean) ∈ G := mem_G 570 (by decide +kernel) (by decide +kernel)
theorem G_ml_X0_68 : Cond.methodLink RX0 68 yX1_become ∈ G := mem_G 571 (by decide +kernel) (by decide +kernel)
theorem G_ml_X0_73 : Cond.methodLink RX0 73 yX1_ends ∈ G := mem_G 572 (by decide +kernel) (by decide +kernel)
theorem G_ml_X0_76 : Cond.methodLink RX0 76 yX1_kind ∈ G := mem_G 573 (by decide +kernel) (by decide +kernel)
theorem G_ml_X0_80 : Cond.methodLink RX0 80 yX1_isFullUnit ∈ G := mem_G 574 (by decide +kernel) (by decide +kernel)
theorem G_ml_X0_83 : Cond.methodLink RX0 83 yX1_ninesOfBlocks ∈ G := mem_G 575 (by decide +kernel) (by decide +kernel)
theorem G_st_X8_isPrime : Cond.static yX8_isPrime ∈ G := mem_G 577 (by decide +kernel) (by decide +kernel)
theorem G_cd_X8_isPrime : Cond.code yX8_isPrime cX8_isPrime 2 (some .boolean) ∈ G := mem_G 578 (by decide +kernel) (by decide +kernel)
theorem G_ml_L_90 : Cond.methodLink RL 90 yX8_listed ∈ G := mem_G 580 (by decide +kernel) (by decide +kernel)
theorem G_im_X8_listed : Cond.instanceMethod yX8_listed ∈ G := mem_G 581 (by decide +kernel) (by decide +kernel)
theorem G_se_X8_listed : Cond.selects RX8 yX8_listed yX8_listed ∈ G := mem_G 582 (by decide +kernel) (by decide +kernel)
theorem G_cd_X8_listed : Cond.code yX8_listed cX8_listed 2 (some .int) ∈ G := mem_G 583 (by decide +kernel) (by decide +kernel)
theorem G_ml_L_94 : Cond.methodLink RL 94 yX8_tells ∈ G := mem_G 584 (by decide +kernel) (by decide +kernel)
theorem G_im_X8_tells : Cond.instanceMethod yX8_tells ∈ G := mem_G 585 (by decide +kernel) (by decide +kernel)
theorem G_se_X8_tells : Cond.selects RX8 yX8_tells yX8_tells ∈ G := mem_G 586 (by decide +kernel) (by decide +kernel)
theorem G_cd_X8_tells : Cond.code yX8_tells cX8_tells 5 (some .long) ∈ G := mem_G 587 (by decide +kernel) (by decide +kernel)
theorem G_co_X8_220 : Cond.constantLong RX8 220 (-9223372036854775808 : Int64) ∈ G := mem_G 588 (by decide +kernel) (by decide +kernel)
theorem G_ml_X8_222 : Cond.methodLink RX8 222 yX4_worthTogether ∈ G := mem_G 589 (by decide +kernel) (by decide +kernel)
theorem G_im_X4_worthTogether : Cond.instanceMethod yX4_worthTogether ∈ G := mem_G 590 (by decide +kernel) (by decide +kernel)
theorem G_se_X4_worthTogether : Cond.selects RX4 yX4_worthTogether yX4_worthTogether ∈ G := mem_G 591 (by decide +kernel) (by decide +kernel)
theorem G_cd_X4_worthTogether : Cond.code yX4_worthTogether cX4_worthTogether 6 (some .long) ∈ G := mem_G 592 (by decide +kernel) (by decide +kernel)
theorem G_ml_X4_48 : Cond.methodLink RX4 48 yX4_worth ∈ G := mem_G 593 (by decide +kernel) (by decide +kernel)
theorem G_st_X4_worth : Cond.static yX4_worth ∈ G := mem_G 594 (by decide +kernel) (by decide +kernel)
theorem G_cd_X4_worth : Cond.code yX4_worth cX4_worth 4 (some .int) ∈ G := mem_G 595 (by decide +kernel) (by decide +kernel)
theorem G_ml_X4_52 : Cond.methodLink RX4 52 yJ9_min_7cf53 ∈ G := mem_G 596 (by decide +kernel) (by decide +kernel)
theorem G_st_J9_min_7cf53 : Cond.static yJ9_min_7cf53 ∈ G := mem_G 597 (by decide +kernel) (by decide +kernel)
theorem G_cd_J9_min_7cf53 : Cond.code yJ9_min_7cf53 cJ9_min_7cf53 2 (some .int) ∈ G := mem_G 598 (by decide +kernel) (by decide +kernel)
theorem G_ml_L_99 : Cond.methodLink RL 99 yX8_feed ∈ G := mem_G 599 (by decide +kernel) (by decide +kernel)
theorem G_im_X8_feed : Cond.instanceMethod yX8_feed ∈ G := mem_G 600 (by decide +kernel) (by decide +kernel)
theorem G_se_X8_feed : Cond.selects RX8 yX8_feed yX8_feed ∈ G := mem_G 601 (by decide +kernel) (by decide +kernel)
theorem G_cd_X8_feed : Cond.code yX8_feed cX8_feed 4 (some .int) ∈ G := mem_G 602 (by decide +kernel) (by decide +kernel)
theorem G_ml_X8_227 : Cond.methodLink RX8 227 yX7_add ∈ G := mem_G 603 (by decide +kernel) (by decide +kernel)
theorem G_im_X7_add : Cond.instanceMethod yX7_add ∈ G := mem_G 604 (by decide +kernel) (by decide +kernel)
theorem G_se_X7_add : Cond.selects RX7 yX7_add yX7_add ∈ G := mem_G 605 (by decide +kernel) (by decide +kernel)
theorem G_cd_X7_add : Cond.code yX7_add cX7_add 2 none ∈ G := mem_G 606 (by decide +kernel) (by decide +kernel)
theorem G_ml_L_103 : Cond.methodLink RL 103 yX8_wipe ∈ G := mem_G 608 (by decide +kernel) (by decide +kernel)
theorem G_im_X8_wipe : Cond.instanceMethod yX8_wipe ∈ G := mem_G 609 (by decide +kernel) (by decide +kernel)
theorem G_se_X8_wipe : Cond.selects RX8 yX8_wipe yX8_wipe ∈ G := mem_G 610 (by decide +kernel) (by decide +kernel)
theorem G_cd_X8_wipe : Cond.code yX8_wipe cX8_wipe 2 (some .int) ∈ G := mem_G 611 (by decide +kernel) (by decide +kernel)
theorem G_ml_L_107 : Cond.methodLink RL 107 yX8_spell ∈ G := mem_G 612 (by decide +kernel) (by decide +kernel)
theorem G_im_X8_spell : Cond.instanceMethod yX8_spell ∈ G := mem_G 613 (by decide +kernel) (by decide +kernel)
theorem G_se_X8_spell : Cond.selects RX8 yX8_spell yX8_spell ∈ G := mem_G 614 (by decide +kernel) (by decide +kernel)
theorem G_cd_X8_spell : Cond.code yX8_spell cX8_spell 5 (some .int) ∈ G := mem_G 615 (by decide +kernel) (by decide +kernel)
theorem G_ml_X8_230 : Cond.methodLink RX8 230 yX1_spelledLength ∈ G := mem_G 616 (by decide +kernel) (by decide +kernel)
theorem G_im_X1_spelledLength : Cond.instanceMethod yX1_spelledLength ∈ G := mem_G 617 (by decide +kernel) (by decide +kernel)
theorem G_se_X1_spelledLength : Cond.selects RX1 yX1_spelledLength yX1_spelledLength ∈ G := mem_G 618 (by decide +kernel) (by decide +kernel)
theorem G_cd_X1_spelledLength : Cond.code yX1_spelledLength cX1_spelledLength 2 (some .int) ∈ G := mem_G 619 (by decide +kernel) (by decide +kernel)
theorem G_ml_X1_70 : Cond.methodLink RX1 70 yX1_wholeDigits ∈ G := mem_G 620 (by decide +kernel) (by decide +kernel)
theorem G_im_X1_wholeDigits : Cond.instanceMethod yX1_wholeDigits ∈ G := mem_G 622 (by decide +kernel) (by decide +kernel)
theorem G_cd_X1_wholeDigits : Cond.code yX1_wholeDigits cX1_wholeDigits 4 (some .int) ∈ G := mem_G 623 (by decide +kernel) (by decide +kernel)
theorem G_ml_X1_83 : Cond.methodLink RX1 83 yX1_whole ∈ G := mem_G 624 (by decide +kernel) (by decide +kernel)
theorem G_ml_X8_233 : Cond.methodLink RX8 233 yX1_spelledByte ∈ G := mem_G 625 (by decide +kernel) (by decide +kernel)
theorem G_im_X1_spelledByte : Cond.instanceMethod yX1_spelledByte ∈ G := mem_G 626 (by decide +kernel) (by decide +kernel)
theorem G_se_X1_spelledByte : Cond.selects RX1 yX1_spelledByte yX1_spelledByte ∈ G := mem_G 627 (by decide +kernel) (by decide +kernel)
theorem G_cd_X1_spelledByte : Cond.code yX1_spelledByte cX1_spelledByte 4 (some .int) ∈ G := mem_G 628 (by decide +kernel) (by decide +kernel)
theorem G_ml_X1_74 : Cond.methodLink RX1 74 yX1_wholeDigit ∈ G := mem_G 629 (by decide +kernel) (by decide +kernel)
theorem G_im_X1_wholeDigit : Cond.instanceMethod yX1_wholeDigit ∈ G := mem_G 631 (by decide +kernel) (by decide +kernel)
theorem G_cd_X1_wholeDigit : Cond.code yX1_wholeDigit cX1_wholeDigit 5 (some .int) ∈ G := mem_G 632 (by decide +kernel) (by decide +kernel)
theorem G_ml_X1_77 : Cond.methodLink RX1 77 yX1_signOf ∈ G := mem_G 633 (by decide +kernel) (by decide +kernel)
theorem G_st_X1_signOf : Cond.static yX1_signOf ∈ G := mem_G 634 (by decide +kernel) (by decide +kernel)
theorem G_cd_X1_signOf : Cond.code yX1_signOf cX1_signOf 1 (some .int) ∈ G := mem_G 635 (by decide +kernel) (by decide +kernel)
theorem G_ml_X1_80 : Cond.methodLink RX1 80 yX1_restAt ∈ G := mem_G 636 (by decide +kernel) (by decide +kernel)
theorem G_ml_L_111 : Cond.methodLink RL 111 yX8_read ∈ G := mem_G 637 (by decide +kernel) (by decide +kernel)
theorem G_im_X8_read : Cond.instanceMethod yX8_read ∈ G := mem_G 638 (by decide +kernel) (by decide +kernel)
theorem G_se_X8_read : Cond.selects RX8 yX8_read yX8_read ∈ G := mem_G 639 (by decide +kernel) (by decide +kernel)
theorem G_cd_X8_read : Cond.code yX8_read cX8_read 3 (some .int) ∈ G := mem_G 640 (by decide +kernel) (by decide +kernel)
theorem G_ml_X8_236 : Cond.methodLink RX8 236 yX3_parse ∈ G := mem_G 641 (by decide +kernel) (by decide +kernel)
theorem G_im_X3_parse : Cond.instanceMethod yX3_parse ∈ G := mem_G 642 (by decide +kernel) (by decide +kernel)
theorem G_se_X3_parse : Cond.selects RX3 yX3_parse yX3_parse ∈ G := mem_G 643 (by decide +kernel) (by decide +kernel)
theorem G_cd_X3_parse : Cond.code yX3_parse cX3_parse 5 (some .int) ∈ G := mem_G 644 (by decide +kernel) (by decide +kernel)
theorem G_ml_X3_27 : Cond.methodLink RX3 27 yX7_takeDigits ∈ G := mem_G 645 (by decide +kernel) (by decide +kernel)
theorem G_im_X7_takeDigits : Cond.instanceMethod yX7_takeDigits ∈ G := mem_G 646 (by decide +kernel) (by decide +kernel)
theorem G_se_X7_takeDigits : Cond.selects RX7 yX7_takeDigits yX7_takeDigits ∈ G := mem_G 647 (by decide +kernel) (by decide +kernel)
theorem G_cd_X7_takeDigits : Cond.code yX7_takeDigits cX7_takeDigits 3 (some .int) ∈ G := mem_G 648 (by decide +kernel) (by decide +kernel)
theorem G_ml_X7_51 : Cond.methodLink RX7 51 yX7_digitOn ∈ G := mem_G 649 (by decide +kernel) (by decide +kernel)
theorem G_im_X7_digitOn : Cond.instanceMethod yX7_digitOn ∈ G := mem_G 651 (by decide +kernel) (by decide +kernel)
theorem G_cd_X7_digitOn : Cond.code yX7_digitOn cX7_digitOn 3 (some .int) ∈ G := mem_G 652 (by decide +kernel) (by decide +kernel)
theorem G_ml_X3_31 : Cond.methodLink RX3 31 yX7_takes ∈ G := mem_G 654 (by decide +kernel) (by decide +kernel)
theorem G_im_X7_takes : Cond.instanceMethod yX7_takes ∈ G := mem_G 655 (by decide +kernel) (by decide +kernel)
theorem G_se_X7_takes : Cond.selects RX7 yX7_takes yX7_takes ∈ G := mem_G 656 (by decide +kernel) (by decide +kernel)
theorem G_cd_X7_takes : Cond.code yX7_takes cX7_takes 2 (some .boolean) ∈ G := mem_G 657 (by decide +kernel) (by decide +kernel)
theorem G_ml_X3_39 : Cond.methodLink RX3 39 yX3_takesPeriod ∈ G := mem_G 659 (by decide +kernel) (by decide +kernel)
theorem G_im_X3_takesPeriod : Cond.instanceMethod yX3_takesPeriod ∈ G := mem_G 661 (by decide +kernel) (by decide +kernel)
theorem G_cd_X3_takesPeriod : Cond.code yX3_takesPeriod cX3_takesPeriod 6 (some .boolean) ∈ G := mem_G 662 (by decide +kernel) (by decide +kernel)
theorem G_ml_X3_43 : Cond.methodLink RX3 43 yX7_isAtEnd ∈ G := mem_G 663 (by decide +kernel) (by decide +kernel)
theorem G_im_X7_isAtEnd : Cond.instanceMethod yX7_isAtEnd ∈ G := mem_G 664 (by decide +kernel) (by decide +kernel)
theorem G_se_X7_isAtEnd : Cond.selects RX7 yX7_isAtEnd yX7_isAtEnd ∈ G := mem_G 665 (by decide +kernel) (by decide +kernel)
theorem G_cd_X7_isAtEnd : Cond.code yX7_isAtEnd cX7_isAtEnd 1 (some .boolean) ∈ G := mem_G 666 (by decide +kernel) (by decide +kernel)
theorem G_ml_L_115 : Cond.methodLink RL 115 yX8_run ∈ G := mem_G 667 (by decide +kernel) (by decide +kernel)
theorem G_im_X8_run : Cond.instanceMethod yX8_run ∈ G := mem_G 668 (by decide +kernel) (by decide +kernel)
theorem G_se_X8_run : Cond.selects RX8 yX8_run yX8_run ∈ G := mem_G 669 (by decide +kernel) (by decide +kernel)
theorem G_cd_X8_run : Cond.code yX8_run cX8_run 3 (some .int) ∈ G := mem_G 670 (by decide +kernel) (by decide +kernel)
theorem G_ml_X8_244 : Cond.methodLink RX8 244 yX5_parse ∈ G := mem_G 671 (by decide +kernel) (by decide +kernel)
theorem G_im_X5_parse : Cond.instanceMethod yX5_parse ∈ G := mem_G 672 (by decide +kernel) (by decide +kernel)
theorem G_se_X5_parse : Cond.selects RX5 yX5_parse yX5_parse ∈ G := mem_G 673 (by decide +kernel) (by decide +kernel)
theorem G_cd_X5_parse : Cond.code yX5_parse cX5_parse 3 (some .int) ∈ G := mem_G 674 (by decide +kernel) (by decide +kernel)
theorem G_ml_X5_31 : Cond.methodLink RX5 31 yX5_parseCommand ∈ G := mem_G 675 (by decide +kernel) (by decide +kernel)
theorem G_im_X5_parseCommand : Cond.instanceMethod yX5_parseCommand ∈ G := mem_G 677 (by decide +kernel) (by decide +kernel)
theorem G_cd_X5_parseCommand : Cond.code yX5_parseCommand cX5_parseCommand 5 (some .int) ∈ G := mem_G 678 (by decide +kernel) (by decide +kernel)
theorem G_ml_X5_43 : Cond.methodLink RX5 43 yX7_takeLetters ∈ G := mem_G 679 (by decide +kernel) (by decide +kernel)
theorem G_im_X7_takeLetters : Cond.instanceMethod yX7_takeLetters ∈ G := mem_G 680 (by decide +kernel) (by decide +kernel)
theorem G_se_X7_takeLetters : Cond.selects RX7 yX7_takeLetters yX7_takeLetters ∈ G := mem_G 681 (by decide +kernel) (by decide +kernel)
theorem G_cd_X7_takeLetters : Cond.code yX7_takeLetters cX7_takeLetters 1 none ∈ G := mem_G 682 (by decide +kernel) (by decide +kernel)
theorem G_ml_X5_46 : Cond.methodLink RX5 46 yX5_wordBetween ∈ G := mem_G 683 (by decide +kernel) (by decide +kernel)
theorem G_st_X5_wordBetween : Cond.static yX5_wordBetween ∈ G := mem_G 684 (by decide +kernel) (by decide +kernel)
theorem G_cd_X5_wordBetween : Cond.code yX5_wordBetween cX5_wordBetween 3 (some .int) ∈ G := mem_G 685 (by decide +kernel) (by decide +kernel)
theorem G_ml_X5_65 : Cond.methodLink RX5 65 yX5_wordText ∈ G := mem_G 686 (by decide +kernel) (by decide +kernel)
theorem G_st_X5_wordText : Cond.static yX5_wordText ∈ G := mem_G 687 (by decide +kernel) (by decide +kernel)
theorem G_cd_X5_wordText : Cond.code yX5_wordText cX5_wordText 1 (some (.object "java/lang/String")) ∈ G := mem_G 688 (by decide +kernel) (by decide +kernel)
theorem G_ml_X5_69 : Cond.methodLink RX5 69 yX7_bears ∈ G := mem_G 694 (by decide +kernel) (by decide +kernel)
theorem G_ml_X5_54 : Cond.methodLink RX5 54 yX5_numbersOf ∈ G := mem_G 696 (by decide +kernel) (by decide +kernel)
theorem G_st_X5_numbersOf : Cond.static yX5_numbersOf ∈ G := mem_G 697 (by decide +kernel) (by decide +kernel)
theorem G_cd_X5_numbersOf : Cond.code yX5_numbersOf cX5_numbersOf 1 (some .int) ∈ G := mem_G 698 (by decide +kernel) (by decide +kernel)
theorem G_ml_X5_39 : Cond.methodLink RX5 39 yX7_takes ∈ G := mem_G 699 (by decide +kernel) (by decide +kernel)
theorem G_ml_X5_62 : Cond.methodLink RX5 62 yX7_takeDigits ∈ G := mem_G 700 (by decide +kernel) (by decide +kernel)
theorem G_ml_X5_35 : Cond.methodLink RX5 35 yX7_isAtEnd ∈ G := mem_G 701 (by decide +kernel) (by decide +kernel)
theorem G_ml_X8_250 : Cond.methodLink RX8 250 yX8_doCommand ∈ G := mem_G 702 (by decide +kernel) (by decide +kernel)
theorem G_im_X8_doCommand : Cond.instanceMethod yX8_doCommand ∈ G := mem_G 704 (by decide +kernel) (by decide +kernel)
theorem G_cd_X8_doCommand : Cond.code yX8_doCommand cX8_doCommand 4 (some .int) ∈ G := mem_G 705 (by decide +kernel) (by decide +kernel)
theorem G_ml_X8_295 : Cond.methodLink RX8 295 yX5_number ∈ G := mem_G 706 (by decide +kernel) (by decide +kernel)
theorem G_im_X5_number : Cond.instanceMethod yX5_number ∈ G := mem_G 707 (by decide +kernel) (by decide +kernel)
theorem G_se_X5_number : Cond.selects RX5 yX5_number yX5_number ∈ G := mem_G 708 (by decide +kernel) (by decide +kernel)
theorem G_cd_X5_number : Cond.code yX5_number cX5_number 3 (some .int) ∈ G := mem_G 709 (by decide +kernel) (by decide +kernel)
theorem G_ml_X8_298 : Cond.methodLink RX8 298 yX5_word ∈ G := mem_G 711 (by decide +kernel) (by decide +kernel)
theorem G_im_X5_word : Cond.instanceMethod yX5_word ∈ G := mem_G 712 (by decide +kernel) (by decide +kernel)
theorem G_se_X5_word : Cond.selects RX5 yX5_word yX5_word ∈ G := mem_G 713 (by decide +kernel) (by decide +kernel)
theorem G_cd_X5_word : Cond.code yX5_word cX5_word 2 (some .int) ∈ G := mem_G 714 (by decide +kernel) (by decide +kernel)
theorem G_ml_X8_301 : Cond.methodLink RX8 301 yX8_fraction ∈ G := mem_G 715 (by decide +kernel) (by decide +kernel)
theorem G_ml_X8_303 : Cond.methodLink RX8 303 yX8_drop ∈ G := mem_G 716 (by decide +kernel) (by decide +kernel)
theorem G_ml_X8_306 : Cond.methodLink RX8 306 yX8_multiply ∈ G := mem_G 717 (by decide +kernel) (by decide +kernel)
theorem G_ml_X8_309 : Cond.methodLink RX8 309 yX8_sum ∈ G := mem_G 718 (by decide +kernel) (by decide +kernel)
theorem G_ml_X8_312 : Cond.methodLink RX8 312 yX8_lowest ∈ G := mem_G 719 (by decide +kernel) (by decide +kernel)
theorem G_ml_L_119 : Cond.methodLink RL 119 yX8_hold ∈ G := mem_G 720 (by decide +kernel) (by decide +kernel)
theorem G_im_X8_hold : Cond.instanceMethod yX8_hold ∈ G := mem_G 721 (by decide +kernel) (by decide +kernel)
theorem G_se_X8_hold : Cond.selects RX8 yX8_hold yX8_hold ∈ G := mem_G 722 (by decide +kernel) (by decide +kernel)
theorem G_cd_X8_hold : Cond.code yX8_hold cX8_hold 5 (some .int) ∈ G := mem_G 723 (by decide +kernel) (by decide +kernel)
theorem G_ml_X8_253 : Cond.methodLink RX8 253 yX8_holderAt ∈ G := mem_G 724 (by decide +kernel) (by decide +kernel)
theorem G_im_X8_holderAt : Cond.instanceMethod yX8_holderAt ∈ G := mem_G 726 (by decide +kernel) (by decide +kernel)
theorem G_cd_X8_holderAt : Cond.code yX8_holderAt cX8_holderAt 2 (some (.object "TurningFractions$Holder")) ∈ G := mem_G 727 (by decide +kernel) (by decide +kernel)
theorem G_ml_X8_257 : Cond.methodLink RX8 257 yX2_holdFraction ∈ G := mem_G 728 (by decide +kernel) (by decide +kernel)
theorem G_im_X2_holdFraction : Cond.instanceMethod yX2_holdFraction ∈ G := mem_G 729 (by decide +kernel) (by decide +kernel)
theorem G_se_X2_holdFraction : Cond.selects RX2 yX2_holdFraction yX2_holdFraction ∈ G := mem_G 730 (by decide +kernel) (by decide +kernel)
theorem G_cd_X2_holdFraction : Cond.code yX2_holdFraction cX2_holdFraction 2 none ∈ G := mem_G 731 (by decide +kernel) (by decide +kernel)
theorem G_ml_X2_29 : Cond.methodLink RX2 29 yX1_becomeLike ∈ G := mem_G 732 (by decide +kernel) (by decide +kernel)
theorem G_ml_L_123 : Cond.methodLink RL 123 yX8_lose ∈ G := mem_G 733 (by decide +kernel) (by decide +kernel)
theorem G_im_X8_lose : Cond.instanceMethod yX8_lose ∈ G := mem_G 734 (by decide +kernel) (by decide +kernel)
theorem G_se_X8_lose : Cond.selects RX8 yX8_lose yX8_lose ∈ G := mem_G 735 (by decide +kernel) (by decide +kernel)
theorem G_cd_X8_lose : Cond.code yX8_lose cX8_lose 4 (some .int) ∈ G := mem_G 736 (by decide +kernel) (by decide +kernel)
theorem G_ml_L_127 : Cond.methodLink RL 127 yX8_taken ∈ G := mem_G 737 (by decide +kernel) (by decide +kernel)
theorem G_im_X8_taken : Cond.instanceMethod yX8_taken ∈ G := mem_G 738 (by decide +kernel) (by decide +kernel)
theorem G_se_X8_taken : Cond.selects RX8 yX8_taken yX8_taken ∈ G := mem_G 739 (by decide +kernel) (by decide +kernel)
theorem G_cd_X8_taken : Cond.code yX8_taken cX8_taken 7 (some .int) ∈ G := mem_G 740 (by decide +kernel) (by decide +kernel)
theorem G_ml_X8_263 : Cond.methodLink RX8 263 yX2_refusalAs ∈ G := mem_G 741 (by decide +kernel) (by decide +kernel)
theorem G_im_X2_refusalAs : Cond.instanceMethod yX2_refusalAs ∈ G := mem_G 742 (by decide +kernel) (by decide +kernel)
theorem G_se_X2_refusalAs : Cond.selects RX2 yX2_refusalAs yX2_refusalAs ∈ G := mem_G 743 (by decide +kernel) (by decide +kernel)
theorem G_cd_X2_refusalAs : Cond.code yX2_refusalAs cX2_refusalAs 2 (some .int) ∈ G := mem_G 744 (by decide +kernel) (by decide +kernel)
theorem G_ml_L_131 : Cond.methodLink RL 131 yX8_was ∈ G := mem_G 745 (by decide +kernel) (by decide +kernel)
theorem G_im_X8_was : Cond.instanceMethod yX8_was ∈ G := mem_G 746 (by decide +kernel) (by decide +kernel)
theorem G_se_X8_was : Cond.selects RX8 yX8_was yX8_was ∈ G := mem_G 747 (by decide +kernel) (by decide +kernel)
theorem G_cd_X8_was : Cond.code yX8_was cX8_was 5 (some .int) ∈ G := mem_G 748 (by decide +kernel) (by decide +kernel)
theorem G_ml_L_135 : Cond.methodLink RL 135 yX8_row ∈ G := mem_G 749 (by decide +kernel) (by decide +kernel)
theorem G_im_X8_row : Cond.instanceMethod yX8_row ∈ G := mem_G 750 (by decide +kernel) (by decide +kernel)
theorem G_se_X8_row : Cond.selects RX8 yX8_row yX8_row ∈ G := mem_G 751 (by decide +kernel) (by decide +kernel)
theorem G_cd_X8_row : Cond.code yX8_row cX8_row 4 (some .int) ∈ G := mem_G 752 (by decide +kernel) (by decide +kernel)
theorem G_ml_X8_269 : Cond.methodLink RX8 269 yX2_holdRow ∈ G := mem_G 753 (by decide +kernel) (by decide +kernel)
theorem G_im_X2_holdRow : Cond.instanceMethod yX2_holdRow ∈ G := mem_G 754 (by decide +kernel) (by decide +kernel)
theorem G_se_X2_holdRow : Cond.selects RX2 yX2_holdRow yX2_holdRow ∈ G := mem_G 755 (by decide +kernel) (by decide +kernel)
theorem G_cd_X2_holdRow : Cond.code yX2_holdRow cX2_holdRow 3 none ∈ G := mem_G 756 (by decide +kernel) (by decide +kernel)
theorem G_ml_L_139 : Cond.methodLink RL 139 yX8_put ∈ G := mem_G 758 (by decide +kernel) (by decide +kernel)
theorem G_im_X8_put : Cond.instanceMethod yX8_put ∈ G := mem_G 759 (by decide +kernel) (by decide +kernel)
theorem G_se_X8_put : Cond.selects RX8 yX8_put yX8_put ∈ G := mem_G 760 (by decide +kernel) (by decide +kernel)
theorem G_cd_X8_put : Cond.code yX8_put cX8_put 6 (some .int) ∈ G := mem_G 761 (by decide +kernel) (by decide +kernel)
theorem G_ml_X8_272 : Cond.methodLink RX8 272 yX2_hasPlace ∈ G := mem_G 762 (by decide +kernel) (by decide +kernel)
theorem G_im_X2_hasPlace : Cond.instanceMethod yX2_hasPlace ∈ G := mem_G 763 (by decide +kernel) (by decide +kernel)
theorem G_se_X2_hasPlace : Cond.selects RX2 yX2_hasPlace yX2_hasPlace ∈ G := mem_G 764 (by decide +kernel) (by decide +kernel)
theorem G_cd_X2_hasPlace : Cond.code yX2_hasPlace cX2_hasPlace 2 (some .boolean) ∈ G := mem_G 765 (by decide +kernel) (by decide +kernel)
theorem G_ml_L_143 : Cond.methodLink RL 143 yX8_get ∈ G := mem_G 767 (by decide +kernel) (by decide +kernel)
theorem G_im_X8_get : Cond.instanceMethod yX8_get ∈ G := mem_G 768 (by decide +kernel) (by decide +kernel)
theorem G_se_X8_get : Cond.selects RX8 yX8_get yX8_get ∈ G := mem_G 769 (by decide +kernel) (by decide +kernel)
theorem G_cd_X8_get : Cond.code yX8_get cX8_get 4 (some .long) ∈ G := mem_G 770 (by decide +kernel) (by decide +kernel)
theorem G_ml_L_148 : Cond.methodLink RL 148 yX8_judge ∈ G := mem_G 771 (by decide +kernel) (by decide +kernel)
theorem G_im_X8_judge : Cond.instanceMethod yX8_judge ∈ G := mem_G 772 (by decide +kernel) (by decide +kernel)
theorem G_se_X8_judge : Cond.selects RX8 yX8_judge yX8_judge ∈ G := mem_G 773 (by decide +kernel) (by decide +kernel)
theorem G_cd_X8_judge : Cond.code yX8_judge cX8_judge 6 (some .int) ∈ G := mem_G 774 (by decide +kernel) (by decide +kernel)
theorem G_ml_X8_278 : Cond.methodLink RX8 278 yX2_firstUnlike ∈ G := mem_G 775 (by decide +kernel) (by decide +kernel)
theorem G_im_X2_firstUnlike : Cond.instanceMethod yX2_firstUnlike ∈ G := mem_G 776 (by decide +kernel) (by decide +kernel)
theorem G_se_X2_firstUnlike : Cond.selects RX2 yX2_firstUnlike yX2_firstUnlike ∈ G := mem_G 777 (by decide +kernel) (by decide +kernel)
theorem G_cd_X2_firstUnlike : Cond.code yX2_firstUnlike cX2_firstUnlike 4 (some .int) ∈ G := mem_G 778 (by decide +kernel) (by decide +kernel)
theorem G_ml_X2_41 : Cond.methodLink RX2 41 yX1_restAt ∈ G := mem_G 779 (by decide +kernel) (by decide +kernel)
theorem G_ml_X2_49 : Cond.methodLink RX2 49 yX1_digitOf ∈ G := mem_G 781 (by decide +kernel) (by decide +kernel)
theorem G_ml_X2_52 : Cond.methodLink RX2 52 yX1_restAfter ∈ G := mem_G 782 (by decide +kernel) (by decide +kernel)
theorem G_ml_L_152 : Cond.methodLink RL 152 yX8_image ∈ G := mem_G 783 (by decide +kernel) (by decide +kernel)
theorem G_im_X8_image : Cond.instanceMethod yX8_image ∈ G := mem_G 784 (by decide +kernel) (by decide +kernel)
theorem G_se_X8_image : Cond.selects RX8 yX8_image yX8_image ∈ G := mem_G 785 (by decide +kernel) (by decide +kernel)
theorem G_cd_X8_image : Cond.code yX8_image cX8_image 1 (some .int) ∈ G := mem_G 786 (by decide +kernel) (by decide +kernel)
theorem G_ml_X8_282 : Cond.methodLink RX8 282 yX6_becomeLike ∈ G := mem_G 787 (by decide +kernel) (by decide +kernel)
theorem G_im_X6_becomeLike : Cond.instanceMethod yX6_becomeLike ∈ G := mem_G 788 (by decide +kernel) (by decide +kernel)
theorem G_se_X6_becomeLike : Cond.selects RX6 yX6_becomeLike yX6_becomeLike ∈ G := mem_G 789 (by decide +kernel) (by decide +kernel)
theorem G_cd_X6_becomeLike : Cond.code yX6_becomeLike cX6_becomeLike 3 none ∈ G := mem_G 790 (by decide +kernel) (by decide +kernel)
theorem G_ml_X8_286 : Cond.methodLink RX8 286 yX0_becomeLike ∈ G := mem_G 791 (by decide +kernel) (by decide +kernel)
theorem G_im_X0_becomeLike : Cond.instanceMethod yX0_becomeLike ∈ G := mem_G 792 (by decide +kernel) (by decide +kernel)
theorem G_se_X0_becomeLike : Cond.selects RX0 yX0_becomeLike yX0_becomeLike ∈ G := mem_G 793 (by decide +kernel) (by decide +kernel)
theorem G_cd_X0_becomeLike : Cond.code yX0_becomeLike cX0_becomeLike 3 none ∈ G := mem_G 794 (by decide +kernel) (by decide +kernel)
theorem G_ml_L_156 : Cond.methodLink RL 156 yX8_undo ∈ G := mem_G 795 (by decide +kernel) (by decide +kernel)
theorem G_im_X8_undo : Cond.instanceMethod yX8_undo ∈ G := mem_G 796 (by decide +kernel) (by decide +kernel)
theorem G_se_X8_undo : Cond.selects RX8 yX8_undo yX8_undo ∈ G := mem_G 797 (by decide +kernel) (by decide +kernel)
theorem G_cd_X8_undo : Cond.code yX8_undo cX8_undo 1 (some .int) ∈ G := mem_G 798 (by decide +kernel) (by decide +kernel)
theorem G_ml_L_160 : Cond.methodLink RL 160 yX8_count ∈ G := mem_G 799 (by decide +kernel) (by decide +kernel)
theorem G_im_X8_count : Cond.instanceMethod yX8_count ∈ G := mem_G 800 (by decide +kernel) (by decide +kernel)
theorem G_se_X8_count : Cond.selects RX8 yX8_count yX8_count ∈ G := mem_G 801 (by decide +kernel) (by decide +kernel)
theorem G_cd_X8_count : Cond.code yX8_count cX8_count 2 (some .int) ∈ G := mem_G 802 (by decide +kernel) (by decide +kernel)
theorem G_kl_L_10 : Cond.classLink RL 10 RX9 ∈ G := mem_G 803 (by decide +kernel) (by decide +kernel)
theorem G_is_X9 : Cond.instantiable RX9 44 ∈ G := mem_G 804 (by decide +kernel) (by decide +kernel)
theorem G_ml_L_12 : Cond.methodLink RL 12 yX9_init ∈ G := mem_G 805 (by decide +kernel) (by decide +kernel)
theorem G_im_X9_init : Cond.instanceMethod yX9_init ∈ G := mem_G 806 (by decide +kernel) (by decide +kernel)
theorem G_cd_X9_init : Cond.code yX9_init cX9_init 1 none ∈ G := mem_G 807 (by decide +kernel) (by decide +kernel)
theorem G_ml_X9_3 : Cond.methodLink RX9 3 objectInit ∈ G := mem_G 808 (by decide +kernel) (by decide +kernel)
theorem G_fl_X9_89 : Cond.fieldLink RX9 89 "TurningFractionsModel" "many" "I" ∈ G := mem_G 809 (by decide +kernel) (by decide +kernel)
theorem G_fl_X9_11 : Cond.fieldLink RX9 11 "TurningFractionsModel" "as" "[I" ∈ G := mem_G 810 (by decide +kernel) (by decide +kernel)
theorem G_fl_X9_15 : Cond.fieldLink RX9 15 "TurningFractionsModel" "bs" "[I" ∈ G := mem_G 811 (by decide +kernel) (by decide +kernel)
theorem G_fl_X9_18 : Cond.fieldLink RX9 18 "TurningFractionsModel" "bases" "[I" ∈ G := mem_G 812 (by decide +kernel) (by decide +kernel)
theorem G_fl_X9_100 : Cond.fieldLink RX9 100 "TurningFractionsModel" "head" "I" ∈ G := mem_G 813 (by decide +kernel) (by decide +kernel)
theorem G_fl_X9_103 : Cond.fieldLink RX9 103 "TurningFractionsModel" "length" "I" ∈ G := mem_G 814 (by decide +kernel) (by decide +kernel)
theorem G_fl_X9_106 : Cond.fieldLink RX9 106 "TurningFractionsModel" "isEnding" "Z" ∈ G := mem_G 815 (by decide +kernel) (by decide +kernel)
theorem G_fl_X9_21 : Cond.fieldLink RX9 21 "TurningFractionsModel" "seen" "[I" ∈ G := mem_G 816 (by decide +kernel) (by decide +kernel)
theorem G_fl_X9_24 : Cond.fieldLink RX9 24 "TurningFractionsModel" "rests" "[I" ∈ G := mem_G 817 (by decide +kernel) (by decide +kernel)
theorem G_fl_X9_27 : Cond.fieldLink RX9 27 "TurningFractionsModel" "digits" "[I" ∈ G := mem_G 818 (by decide +kernel) (by decide +kernel)
theorem G_fl_X9_30 : Cond.fieldLink RX9 30 "TurningFractionsModel" "sums" "[I" ∈ G := mem_G 819 (by decide +kernel) (by decide +kernel)
theorem G_fl_X9_149 : Cond.fieldLink RX9 149 "TurningFractionsModel" "over" "I" ∈ G := mem_G 820 (by decide +kernel) (by decide +kernel)
theorem G_fl_X9_33 : Cond.fieldLink RX9 33 "TurningFractionsModel" "ring" "[I" ∈ G := mem_G 821 (by decide +kernel) (by decide +kernel)
theorem G_fl_X9_174 : Cond.fieldLink RX9 174 "TurningFractionsModel" "ringLength" "I" ∈ G := mem_G 822 (by decide +kernel) (by decide +kernel)
theorem G_fl_X9_194 : Cond.fieldLink RX9 194 "TurningFractionsModel" "listMany" "I" ∈ G := mem_G 823 (by decide +kernel) (by decide +kernel)
theorem G_fl_X9_36 : Cond.fieldLink RX9 36 "TurningFractionsModel" "listBase" "I" ∈ G := mem_G 824 (by decide +kernel) (by decide +kernel)
theorem G_fl_X9_40 : Cond.fieldLink RX9 40 "TurningFractionsModel" "list" "[I" ∈ G := mem_G 825 (by decide +kernel) (by decide +kernel)
theorem G_fl_X9_43 : Cond.fieldLink RX9 43 "TurningFractionsModel" "words" "[C" ∈ G := mem_G 826 (by decide +kernel) (by decide +kernel)
theorem G_fl_X9_47 : Cond.fieldLink RX9 47 "TurningFractionsModel" "commands" "[C" ∈ G := mem_G 827 (by decide +kernel) (by decide +kernel)
theorem G_fl_X9_50 : Cond.fieldLink RX9 50 "TurningFractionsModel" "nots" "[C" ∈ G := mem_G 828 (by decide +kernel) (by decide +kernel)
theorem G_fl_X9_53 : Cond.fieldLink RX9 53 "TurningFractionsModel" "tape" "[I" ∈ G := mem_G 829 (by decide +kernel) (by decide +kernel)
theorem G_fl_X9_215 : Cond.fieldLink RX9 215 "TurningFractionsModel" "taped" "I" ∈ G := mem_G 830 (by decide +kernel) (by decide +kernel)
theorem G_fl_X9_221 : Cond.fieldLink RX9 221 "TurningFractionsModel" "size" "I" ∈ G := mem_G 831 (by decide +kernel) (by decide +kernel)
theorem G_fl_X9_218 : Cond.fieldLink RX9 218 "TurningFractionsModel" "at" "I" ∈ G := mem_G 832 (by decide +kernel) (by decide +kernel)
theorem G_fl_X9_242 : Cond.fieldLink RX9 242 "TurningFractionsModel" "made" "J" ∈ G := mem_G 833 (by decide +kernel) (by decide +kernel)
theorem G_fl_X9_246 : Cond.fieldLink RX9 246 "TurningFractionsModel" "power" "J" ∈ G := mem_G 834 (by decide +kernel) (by decide +kernel)
theorem G_fl_X9_249 : Cond.fieldLink RX9 249 "TurningFractionsModel" "figures" "I" ∈ G := mem_G 835 (by decide +kernel) (by decide +kernel)
theorem G_fl_X9_258 : Cond.fieldLink RX9 258 "TurningFractionsModel" "above" "J" ∈ G := mem_G 836 (by decide +kernel) (by decide +kernel)
theorem G_fl_X9_261 : Cond.fieldLink RX9 261 "TurningFractionsModel" "below" "J" ∈ G := mem_G 837 (by decide +kernel) (by decide +kernel)
theorem G_fl_X9_56 : Cond.fieldLink RX9 56 "TurningFractionsModel" "told" "[I" ∈ G := mem_G 838 (by decide +kernel) (by decide +kernel)
theorem G_fl_X9_59 : Cond.fieldLink RX9 59 "TurningFractionsModel" "holds" "[I" ∈ G := mem_G 839 (by decide +kernel) (by decide +kernel)
theorem G_fl_X9_62 : Cond.fieldLink RX9 62 "TurningFractionsModel" "heldAs" "[I" ∈ G := mem_G 840 (by decide +kernel) (by decide +kernel)
theorem G_fl_X9_65 : Cond.fieldLink RX9 65 "TurningFractionsModel" "heldBs" "[I" ∈ G := mem_G 841 (by decide +kernel) (by decide +kernel)
theorem G_fl_X9_68 : Cond.fieldLink RX9 68 "TurningFractionsModel" "heldBases" "[I" ∈ G := mem_G 842 (by decide +kernel) (by decide +kernel)
theorem G_fl_X9_71 : Cond.fieldLink RX9 71 "TurningFractionsModel" "rowSizes" "[I" ∈ G := mem_G 843 (by decide +kernel) (by decide +kernel)
theorem G_fl_X9_74 : Cond.fieldLink RX9 74 "TurningFractionsModel" "items" "[I" ∈ G := mem_G 844 (by decide +kernel) (by decide +kernel)
theorem G_fl_X9_305 : Cond.fieldLink RX9 305 "TurningFractionsModel" "isKept" "Z" ∈ G := mem_G 845 (by decide +kernel) (by decide +kernel)
theorem G_fl_X9_308 : Cond.fieldLink RX9 308 "TurningFractionsModel" "keptMany" "I" ∈ G := mem_G 846 (by decide +kernel) (by decide +kernel)
theorem G_fl_X9_77 : Cond.fieldLink RX9 77 "TurningFractionsModel" "keptAs" "[I" ∈ G := mem_G 847 (by decide +kernel) (by decide +kernel)
theorem G_fl_X9_80 : Cond.fieldLink RX9 80 "TurningFractionsModel" "keptBs" "[I" ∈ G := mem_G 848 (by decide +kernel) (by decide +kernel)
theorem G_fl_X9_83 : Cond.fieldLink RX9 83 "TurningFractionsModel" "keptBases" "[I" ∈ G := mem_G 849 (by decide +kernel) (by decide +kernel)
theorem G_fl_X9_311 : Cond.fieldLink RX9 311 "TurningFractionsModel" "keptListMany" "I" ∈ G := mem_G 850 (by decide +kernel) (by decide +kernel)
theorem G_fl_X9_314 : Cond.fieldLink RX9 314 "TurningFractionsModel" "keptListBase" "I" ∈ G := mem_G 851 (by decide +kernel) (by decide +kernel)
theorem G_fl_X9_86 : Cond.fieldLink RX9 86 "TurningFractionsModel" "keptList" "[I" ∈ G := mem_G 852 (by decide +kernel) (by decide +kernel)
theorem G_ml_L_17 : Cond.methodLink RL 17 yX9_fraction ∈ G := mem_G 943 (by decide +kernel) (by decide +kernel)
theorem G_im_X9_fraction : Cond.instanceMethod yX9_fraction ∈ G := mem_G 944 (by decide +kernel) (by decide +kernel)
theorem G_se_X9_fraction : Cond.selects RX9 yX9_fraction yX9_fraction ∈ G := mem_G 945 (by decide +kernel) (by decide +kernel)
theorem G_cd_X9_fraction : Cond.code yX9_fraction cX9_fraction 4 (some .int) ∈ G := mem_G 946 (by decide +kernel) (by decide +kernel)
theorem G_co_X9_114 : Cond.constantLong RX9 114 (9999 : Int64) ∈ G := mem_G 947 (by decide +kernel) (by decide +kernel)
theorem G_ml_X9_92 : Cond.methodLink RX9 92 yX9_isIn ∈ G := mem_G 948 (by decide +kernel) (by decide +kernel)
theorem G_st_X9_isIn : Cond.static yX9_isIn ∈ G := mem_G 949 (by decide +kernel) (by decide +kernel)
theorem G_cd_X9_isIn : Cond.code yX9_isIn cX9_isIn 6 (some .boolean) ∈ G := mem_G 950 (by decide +kernel) (by decide +kernel)
theorem G_co_X9_116 : Cond.constantLong RX9 116 (999 : Int64) ∈ G := mem_G 951 (by decide +kernel) (by decide +kernel)
theorem G_ml_X9_118 : Cond.methodLink RX9 118 yX9_isBase ∈ G := mem_G 952 (by decide +kernel) (by decide +kernel)
theorem G_st_X9_isBase : Cond.static yX9_isBase ∈ G := mem_G 953 (by decide +kernel) (by decide +kernel)
theorem G_cd_X9_isBase : Cond.code yX9_isBase cX9_isBase 1 (some .boolean) ∈ G := mem_G 954 (by decide +kernel) (by decide +kernel)
theorem G_co_X9_96 : Cond.constantLong RX9 96 (2 : Int64) ∈ G := mem_G 955 (by decide +kernel) (by decide +kernel)
theorem G_co_X9_98 : Cond.constantLong RX9 98 (16 : Int64) ∈ G := mem_G 956 (by decide +kernel) (by decide +kernel)
theorem G_ml_X9_122 : Cond.methodLink RX9 122 yX9_comes ∈ G := mem_G 957 (by decide +kernel) (by decide +kernel)
theorem G_im_X9_comes : Cond.instanceMethod yX9_comes ∈ G := mem_G 959 (by decide +kernel) (by decide +kernel)
theorem G_cd_X9_comes : Cond.code yX9_comes cX9_comes 4 (some .int) ∈ G := mem_G 960 (by decide +kernel) (by decide +kernel)
theorem G_ml_L_22 : Cond.methodLink RL 22 yX9_drop ∈ G := mem_G 961 (by decide +kernel) (by decide +kernel)
theorem G_im_X9_drop : Cond.instanceMethod yX9_drop ∈ G := mem_G 962 (by decide +kernel) (by decide +kernel)
theorem G_se_X9_drop : Cond.selects RX9 yX9_drop yX9_drop ∈ G := mem_G 963 (by decide +kernel) (by decide +kernel)
theorem G_cd_X9_drop : Cond.code yX9_drop cX9_drop 3 (some .int) ∈ G := mem_G 964 (by decide +kernel) (by decide +kernel)
theorem G_ml_X9_126 : Cond.methodLink RX9 126 yX9_isFraction ∈ G := mem_G 965 (by decide +kernel) (by decide +kernel)
theorem G_im_X9_isFraction : Cond.instanceMethod yX9_isFraction ∈ G := mem_G 967 (by decide +kernel) (by decide +kernel)
theorem G_cd_X9_isFraction : Cond.code yX9_isFraction cX9_isFraction 2 (some .boolean) ∈ G := mem_G 968 (by decide +kernel) (by decide +kernel)
theorem G_ml_L_27 : Cond.methodLink RL 27 yX9_multiply ∈ G := mem_G 969 (by decide +kernel) (by decide +kernel)
theorem G_im_X9_multiply : Cond.instanceMethod yX9_multiply ∈ G := mem_G 970 (by decide +kernel) (by decide +kernel)
theorem G_se_X9_multiply : Cond.selects RX9 yX9_multiply yX9_multiply ∈ G := mem_G 971 (by decide +kernel) (by decide +kernel)
theorem G_cd_X9_multiply : Cond.code yX9_multiply cX9_multiply 3 (some .int) ∈ G := mem_G 972 (by decide +kernel) (by decide +kernel)
theorem G_ml_L_31 : Cond.methodLink RL 31 yX9_sum ∈ G := mem_G 973 (by decide +kernel) (by decide +kernel)
theorem G_im_X9_sum : Cond.instanceMethod yX9_sum ∈ G := mem_G 974 (by decide +kernel) (by decide +kernel)
theorem G_se_X9_sum : Cond.selects RX9 yX9_sum yX9_sum ∈ G := mem_G 975 (by decide +kernel) (by decide +kernel)
theorem G_cd_X9_sum : Cond.code yX9_sum cX9_sum 5 (some .int) ∈ G := mem_G 976 (by decide +kernel) (by decide +kernel)
theorem G_ml_X9_133 : Cond.methodLink RX9 133 yX9_comesLowest ∈ G := mem_G 977 (by decide +kernel) (by decide +kernel)
theorem G_im_X9_comesLowest : Cond.instanceMethod yX9_comesLowest ∈ G := mem_G 979 (by decide +kernel) (by decide +kernel)
theorem G_cd_X9_comesLowest : Cond.code yX9_comesLowest cX9_comesLowest 8 (some .int) ∈ G := mem_G 980 (by decide +kernel) (by decide +kernel)
theorem G_ml_X9_129 : Cond.methodLink RX9 129 yX9_divisor ∈ G := mem_G 981 (by decide +kernel) (by decide +kernel)
theorem G_st_X9_divisor : Cond.static yX9_divisor ∈ G := mem_G 982 (by decide +kernel) (by decide +kernel)
theorem G_cd_X9_divisor : Cond.code yX9_divisor cX9_divisor 10 (some .long) ∈ G := mem_G 983 (by decide +kernel) (by decide +kernel)
theorem G_ml_L_35 : Cond.methodLink RL 35 yX9_lowest ∈ G := mem_G 984 (by decide +kernel) (by decide +kernel)
theorem G_im_X9_lowest : Cond.instanceMethod yX9_lowest ∈ G := mem_G 985 (by decide +kernel) (by decide +kernel)
theorem G_se_X9_lowest : Cond.selects RX9 yX9_lowest yX9_lowest ∈ G := mem_G 986 (by decide +kernel) (by decide +kernel)
theorem G_cd_X9_lowest : Cond.code yX9_lowest cX9_lowest 3 (some .int) ∈ G := mem_G 987 (by decide +kernel) (by decide +kernel)
theorem G_ml_L_39 : Cond.methodLink RL 39 yX9_of ∈ G := mem_G 988 (by decide +kernel) (by decide +kernel)
theorem G_im_X9_of : Cond.instanceMethod yX9_of ∈ G := mem_G 989 (by decide +kernel) (by decide +kernel)
theorem G_se_X9_of : Cond.selects RX9 yX9_of yX9_of ∈ G := mem_G 990 (by decide +kernel) (by decide +kernel)
theorem G_cd_X9_of : Cond.code yX9_of cX9_of 3 (some .int) ∈ G := mem_G 991 (by decide +kernel) (by decide +kernel)
theorem G_ml_X9_137 : Cond.methodLink RX9 137 yX9_looksAt ∈ G := mem_G 992 (by decide +kernel) (by decide +kernel)
theorem G_im_X9_looksAt : Cond.instanceMethod yX9_looksAt ∈ G := mem_G 994 (by decide +kernel) (by decide +kernel)
theorem G_cd_X9_looksAt : Cond.code yX9_looksAt cX9_looksAt 2 none ∈ G := mem_G 995 (by decide +kernel) (by decide +kernel)
theorem G_ml_X9_110 : Cond.methodLink RX9 110 yX9_looks ∈ G := mem_G 996 (by decide +kernel) (by decide +kernel)
theorem G_im_X9_looks : Cond.instanceMethod yX9_looks ∈ G := mem_G 998 (by decide +kernel) (by decide +kernel)
theorem G_cd_X9_looks : Cond.code yX9_looks cX9_looks 7 none ∈ G := mem_G 999 (by decide +kernel) (by decide +kernel)
theorem G_ml_X9_141 : Cond.methodLink RX9 141 yX9_kindNow ∈ G := mem_G 1000 (by decide +kernel) (by decide +kernel)
theorem G_im_X9_kindNow : Cond.instanceMethod yX9_kindNow ∈ G := mem_G 1002 (by decide +kernel) (by decide +kernel)
theorem G_cd_X9_kindNow : Cond.code yX9_kindNow cX9_kindNow 1 (some .int) ∈ G := mem_G 1003 (by decide +kernel) (by decide +kernel)
theorem G_ml_L_43 : Cond.methodLink RL 43 yX9_digit ∈ G := mem_G 1004 (by decide +kernel) (by decide +kernel)
theorem G_im_X9_digit : Cond.instanceMethod yX9_digit ∈ G := mem_G 1005 (by decide +kernel) (by decide +kernel)
theorem G_se_X9_digit : Cond.selects RX9 yX9_digit yX9_digit ∈ G := mem_G 1006 (by decide +kernel) (by decide +kernel)
theorem G_cd_X9_digit : Cond.code yX9_digit cX9_digit 3 (some .int) ∈ G := mem_G 1007 (by decide +kernel) (by decide +kernel)
theorem G_ml_X9_145 : Cond.methodLink RX9 145 yX9_placeOf ∈ G := mem_G 1008 (by decide +kernel) (by decide +kernel)
theorem G_im_X9_placeOf : Cond.instanceMethod yX9_placeOf ∈ G := mem_G 1010 (by decide +kernel) (by decide +kernel)
theorem G_cd_X9_placeOf : Cond.code yX9_placeOf cX9_placeOf 2 (some .int) ∈ G := mem_G 1011 (by decide +kernel) (by decide +kernel)
theorem G_ml_L_47 : Cond.methodLink RL 47 yX9_rest ∈ G := mem_G 1012 (by decide +kernel) (by decide +kernel)
theorem G_im_X9_rest : Cond.instanceMethod yX9_rest ∈ G := mem_G 1013 (by decide +kernel) (by decide +kernel)
theorem G_se_X9_rest : Cond.selects RX9 yX9_rest yX9_rest ∈ G := mem_G 1014 (by decide +kernel) (by decide +kernel)
theorem G_cd_X9_rest : Cond.code yX9_rest cX9_rest 3 (some .int) ∈ G := mem_G 1015 (by decide +kernel) (by decide +kernel)
theorem G_ml_L_51 : Cond.methodLink RL 51 yX9_place ∈ G := mem_G 1016 (by decide +kernel) (by decide +kernel)
theorem G_im_X9_place : Cond.instanceMethod yX9_place ∈ G := mem_G 1017 (by decide +kernel) (by decide +kernel)
theorem G_se_X9_place : Cond.selects RX9 yX9_place yX9_place ∈ G := mem_G 1018 (by decide +kernel) (by decide +kernel)
theorem G_cd_X9_place : Cond.code yX9_place cX9_place 4 (some .int) ∈ G := mem_G 1019 (by decide +kernel) (by decide +kernel)
theorem G_ml_L_55 : Cond.methodLink RL 55 yX9_block ∈ G := mem_G 1020 (by decide +kernel) (by decide +kernel)
theorem G_im_X9_block : Cond.instanceMethod yX9_block ∈ G := mem_G 1021 (by decide +kernel) (by decide +kernel)
theorem G_se_X9_block : Cond.selects RX9 yX9_block yX9_block ∈ G := mem_G 1022 (by decide +kernel) (by decide +kernel)
theorem G_cd_X9_block : Cond.code yX9_block cX9_block 4 (some .int) ∈ G := mem_G 1023 (by decide +kernel) (by decide +kernel)
theorem G_ml_X9_152 : Cond.methodLink RX9 152 yX9_isParted ∈ G := mem_G 1024 (by decide +kernel) (by decide +kernel)
theorem G_im_X9_isParted : Cond.instanceMethod yX9_isParted ∈ G := mem_G 1026 (by decide +kernel) (by decide +kernel)
theorem G_cd_X9_isParted : Cond.code yX9_isParted cX9_isParted 2 (some .boolean) ∈ G := mem_G 1027 (by decide +kernel) (by decide +kernel)
theorem G_co_X9_155 : Cond.constantLong RX9 155 (-1 : Int64) ∈ G := mem_G 1028 (by decide +kernel) (by decide +kernel)
theorem G_ml_X9_157 : Cond.methodLink RX9 157 yX9_blocks ∈ G := mem_G 1029 (by decide +kernel) (by decide +kernel)
theorem G_im_X9_blocks : Cond.instanceMethod yX9_blocks ∈ G := mem_G 1031 (by decide +kernel) (by decide +kernel)
theorem G_cd_X9_blocks : Cond.code yX9_blocks cX9_blocks 8 none ∈ G := mem_G 1032 (by decide +kernel) (by decide +kernel)
theorem G_ml_L_59 : Cond.methodLink RL 59 yX9_nines ∈ G := mem_G 1033 (by decide +kernel) (by decide +kernel)
theorem G_im_X9_nines : Cond.instanceMethod yX9_nines ∈ G := mem_G 1034 (by decide +kernel) (by decide +kernel)
theorem G_se_X9_nines : Cond.selects RX9 yX9_nines yX9_nines ∈ G := mem_G 1035 (by decide +kernel) (by decide +kernel)
theorem G_cd_X9_nines : Cond.code yX9_nines cX9_nines 3 (some .int) ∈ G := mem_G 1036 (by decide +kernel) (by decide +kernel)
theorem G_ml_X9_171 : Cond.methodLink RX9 171 yX9_ninesNow ∈ G := mem_G 1037 (by decide +kernel) (by decide +kernel)
theorem G_im_X9_ninesNow : Cond.instanceMethod yX9_ninesNow ∈ G := mem_G 1039 (by decide +kernel) (by decide +kernel)
theorem G_cd_X9_ninesNow : Cond.code yX9_ninesNow cX9_ninesNow 7 (some .int) ∈ G := mem_G 1040 (by decide +kernel) (by decide +kernel)
theorem G_co_X9_161 : Cond.constantLong RX9 161 (1000000 : Int64) ∈ G := mem_G 1041 (by decide +kernel) (by decide +kernel)
theorem G_ml_X9_163 : Cond.methodLink RX9 163 yX9_smallNines ∈ G := mem_G 1042 (by decide +kernel) (by decide +kernel)
theorem G_im_X9_smallNines : Cond.instanceMethod yX9_smallNines ∈ G := mem_G 1044 (by decide +kernel) (by decide +kernel)
theorem G_cd_X9_smallNines : Cond.code yX9_smallNines cX9_smallNines 8 (some .int) ∈ G := mem_G 1045 (by decide +kernel) (by decide +kernel)
theorem G_ml_X9_167 : Cond.methodLink RX9 167 yX9_greatNines ∈ G := mem_G 1046 (by decide +kernel) (by decide +kernel)
theorem G_im_X9_greatNines : Cond.instanceMethod yX9_greatNines ∈ G := mem_G 1048 (by decide +kernel) (by decide +kernel)
theorem G_cd_X9_greatNines : Cond.code yX9_greatNines cX9_greatNines 8 (some .int) ∈ G := mem_G 1049 (by decide +kernel) (by decide +kernel)
theorem G_ml_L_63 : Cond.methodLink RL 63 yX9_shift ∈ G := mem_G 1050 (by decide +kernel) (by decide +kernel)
theorem G_im_X9_shift : Cond.instanceMethod yX9_shift ∈ G := mem_G 1051 (by decide +kernel) (by decide +kernel)
theorem G_se_X9_shift : Cond.selects RX9 yX9_shift yX9_shift ∈ G := mem_G 1052 (by decide +kernel) (by decide +kernel)
theorem G_cd_X9_shift : Cond.code yX9_shift cX9_shift 3 (some .int) ∈ G := mem_G 1053 (by decide +kernel) (by decide +kernel)
theorem G_ml_X9_177 : Cond.methodLink RX9 177 yX9_keepsRing ∈ G := mem_G 1054 (by decide +kernel) (by decide +kernel)
theorem G_im_X9_keepsRing : Cond.instanceMethod yX9_keepsRing ∈ G := mem_G 1056 (by decide +kernel) (by decide +kernel)
theorem G_cd_X9_keepsRing : Cond.code yX9_keepsRing cX9_keepsRing 3 none ∈ G := mem_G 1057 (by decide +kernel) (by decide +kernel)
theorem G_ml_X9_180 : Cond.methodLink RX9 180 yX9_shiftNow ∈ G := mem_G 1058 (by decide +kernel) (by decide +kernel)
theorem G_im_X9_shiftNow : Cond.instanceMethod yX9_shiftNow ∈ G := mem_G 1060 (by decide +kernel) (by decide +kernel)
theorem G_cd_X9_shiftNow : Cond.code yX9_shiftNow cX9_shiftNow 4 (some .int) ∈ G := mem_G 1061 (by decide +kernel) (by decide +kernel)
theorem G_ml_L_67 : Cond.methodLink RL 67 yX9_multiple ∈ G := mem_G 1062 (by decide +kernel) (by decide +kernel)
theorem G_im_X9_multiple : Cond.instanceMethod yX9_multiple ∈ G := mem_G 1063 (by decide +kernel) (by decide +kernel)
theorem G_se_X9_multiple : Cond.selects RX9 yX9_multiple yX9_multiple ∈ G := mem_G 1064 (by decide +kernel) (by decide +kernel)
theorem G_cd_X9_multiple : Cond.code yX9_multiple cX9_multiple 4 (some .int) ∈ G := mem_G 1065 (by decide +kernel) (by decide +kernel)
theorem G_ml_L_71 : Cond.methodLink RL 71 yX9_order ∈ G := mem_G 1066 (by decide +kernel) (by decide +kernel)
theorem G_im_X9_order : Cond.instanceMethod yX9_order ∈ G := mem_G 1067 (by decide +kernel) (by decide +kernel)
theorem G_se_X9_order : Cond.selects RX9 yX9_order yX9_order ∈ G := mem_G 1068 (by decide +kernel) (by decide +kernel)
theorem G_cd_X9_order : Cond.code yX9_order cX9_order 5 (some .int) ∈ G := mem_G 1069 (by decide +kernel) (by decide +kernel)
theorem G_ml_L_75 : Cond.methodLink RL 75 yX9_cycles ∈ G := mem_G 1070 (by decide +kernel) (by decide +kernel)
theorem G_im_X9_cycles : Cond.instanceMethod yX9_cycles ∈ G := mem_G 1071 (by decide +kernel) (by decide +kernel)
theorem G_se_X9_cycles : Cond.selects RX9 yX9_cycles yX9_cycles ∈ G := mem_G 1072 (by decide +kernel) (by decide +kernel)
theorem G_cd_X9_cycles : Cond.code yX9_cycles cX9_cycles 9 (some .int) ∈ G := mem_G 1073 (by decide +kernel) (by decide +kernel)
theorem G_ml_X9_183 : Cond.methodLink RX9 183 yJ9_max_7cf53 ∈ G := mem_G 1074 (by decide +kernel) (by decide +kernel)
theorem G_ml_L_80 : Cond.methodLink RL 80 yX9_full ∈ G := mem_G 1075 (by decide +kernel) (by decide +kernel)
theorem G_im_X9_full : Cond.instanceMethod yX9_full ∈ G := mem_G 1076 (by decide +kernel) (by decide +kernel)
theorem G_se_X9_full : Cond.selects RX9 yX9_full yX9_full ∈ G := mem_G 1077 (by decide +kernel) (by decide +kernel)
theorem G_cd_X9_full : Cond.code yX9_full cX9_full 9 (some .int) ∈ G := mem_G 1078 (by decide +kernel) (by decide +kernel)
theorem G_ml_X9_188 : Cond.methodLink RX9 188 yX9_isFull ∈ G := mem_G 1079 (by decide +kernel) (by decide +kernel)
theorem G_im_X9_isFull : Cond.instanceMethod yX9_isFull ∈ G := mem_G 1081 (by decide +kernel) (by decide +kernel)
theorem G_cd_X9_isFull : Cond.code yX9_isFull cX9_isFull 3 (some .boolean) ∈ G := mem_G 1082 (by decide +kernel) (by decide +kernel)
theorem G_ml_L_84 : Cond.methodLink RL 84 yX9_list ∈ G := mem_G 1083 (by decide +kernel) (by decide +kernel)
theorem G_im_X9_list : Cond.instanceMethod yX9_list ∈ G := mem_G 1084 (by decide +kernel) (by decide +kernel)
theorem G_se_X9_list : Cond.selects RX9 yX9_list yX9_list ∈ G := mem_G 1085 (by decide +kernel) (by decide +kernel)
theorem G_cd_X9_list : Cond.code yX9_list cX9_list 4 (some .int) ∈ G := mem_G 1086 (by decide +kernel) (by decide +kernel)
theorem G_co_X9_192 : Cond.constantLong RX9 192 (400 : Int64) ∈ G := mem_G 1087 (by decide +kernel) (by decide +kernel)
theorem G_ml_L_93 : Cond.methodLink RL 93 yX9_listed ∈ G := mem_G 1088 (by decide +kernel) (by decide +kernel)
theorem G_im_X9_listed : Cond.instanceMethod yX9_listed ∈ G := mem_G 1089 (by decide +kernel) (by decide +kernel)
theorem G_se_X9_listed : Cond.selects RX9 yX9_listed yX9_listed ∈ G := mem_G 1090 (by decide +kernel) (by decide +kernel)
theorem G_cd_X9_listed : Cond.code yX9_listed cX9_listed 2 (some .int) ∈ G := mem_G 1091 (by decide +kernel) (by decide +kernel)
theorem G_ml_L_98 : Cond.methodLink RL 98 yX9_tells ∈ G := mem_G 1092 (by decide +kernel) (by decide +kernel)
theorem G_im_X9_tells : Cond.instanceMethod yX9_tells ∈ G := mem_G 1093 (by decide +kernel) (by decide +kernel)
theorem G_se_X9_tells : Cond.selects RX9 yX9_tells yX9_tells ∈ G := mem_G 1094 (by decide +kernel) (by decide +kernel)
theorem G_cd_X9_tells : Cond.code yX9_tells cX9_tells 7 (some .long) ∈ G := mem_G 1095 (by decide +kernel) (by decide +kernel)
theorem G_co_X9_203 : Cond.constantLong RX9 203 (5 : Int64) ∈ G := mem_G 1096 (by decide +kernel) (by decide +kernel)
theorem G_co_X9_205 : Cond.constantLong RX9 205 (99 : Int64) ∈ G := mem_G 1097 (by decide +kernel) (by decide +kernel)
theorem G_co_X9_207 : Cond.constantLong RX9 207 (-9223372036854775808 : Int64) ∈ G := mem_G 1098 (by decide +kernel) (by decide +kernel)
theorem G_ml_X9_209 : Cond.methodLink RX9 209 yX9_worth ∈ G := mem_G 1099 (by decide +kernel) (by decide +kernel)
theorem G_st_X9_worth : Cond.static yX9_worth ∈ G := mem_G 1100 (by decide +kernel) (by decide +kernel)
theorem G_cd_X9_worth : Cond.code yX9_worth cX9_worth 4 (some .long) ∈ G := mem_G 1101 (by decide +kernel) (by decide +kernel)
theorem G_ml_X9_200 : Cond.methodLink RX9 200 yJ9_min_f86c9 ∈ G := mem_G 1102 (by decide +kernel) (by decide +kernel)
theorem G_st_J9_min_f86c9 : Cond.static yJ9_min_f86c9 ∈ G := mem_G 1103 (by decide +kernel) (by decide +kernel)
theorem G_cd_J9_min_f86c9 : Cond.code yJ9_min_f86c9 cJ9_min_f86c9 4 (some .long) ∈ G := mem_G 1104 (by decide +kernel) (by decide +kernel)
theorem G_ml_L_102 : Cond.methodLink RL 102 yX9_feed ∈ G := mem_G 1105 (by decide +kernel) (by decide +kernel)
theorem G_im_X9_feed : Cond.instanceMethod yX9_feed ∈ G := mem_G 1106 (by decide +kernel) (by decide +kernel)
theorem G_se_X9_feed : Cond.selects RX9 yX9_feed yX9_feed ∈ G := mem_G 1107 (by decide +kernel) (by decide +kernel)
theorem G_cd_X9_feed : Cond.code yX9_feed cX9_feed 4 (some .int) ∈ G := mem_G 1108 (by decide +kernel) (by decide +kernel)
theorem G_co_X9_213 : Cond.constantLong RX9 213 (4 : Int64) ∈ G := mem_G 1109 (by decide +kernel) (by decide +kernel)
theorem G_ml_L_106 : Cond.methodLink RL 106 yX9_wipe ∈ G := mem_G 1110 (by decide +kernel) (by decide +kernel)
theorem G_im_X9_wipe : Cond.instanceMethod yX9_wipe ∈ G := mem_G 1111 (by decide +kernel) (by decide +kernel)
theorem G_se_X9_wipe : Cond.selects RX9 yX9_wipe yX9_wipe ∈ G := mem_G 1112 (by decide +kernel) (by decide +kernel)
theorem G_cd_X9_wipe : Cond.code yX9_wipe cX9_wipe 2 (some .int) ∈ G := mem_G 1113 (by decide +kernel) (by decide +kernel)
theorem G_ml_L_89 : Cond.methodLink RL 89 yX9_thin ∈ G := mem_G 1114 (by decide +kernel) (by decide +kernel)
theorem G_im_X9_thin : Cond.instanceMethod yX9_thin ∈ G := mem_G 1115 (by decide +kernel) (by decide +kernel)
theorem G_se_X9_thin : Cond.selects RX9 yX9_thin yX9_thin ∈ G := mem_G 1116 (by decide +kernel) (by decide +kernel)
theorem G_cd_X9_thin : Cond.code yX9_thin cX9_thin 5 (some .int) ∈ G := mem_G 1117 (by decide +kernel) (by decide +kernel)
theorem G_ml_X9_224 : Cond.methodLink RX9 224 yX9_wordOf ∈ G := mem_G 1118 (by decide +kernel) (by decide +kernel)
theorem G_im_X9_wordOf : Cond.instanceMethod yX9_wordOf ∈ G := mem_G 1120 (by decide +kernel) (by decide +kernel)
theorem G_cd_X9_wordOf : Cond.code yX9_wordOf cX9_wordOf 7 (some .int) ∈ G := mem_G 1121 (by decide +kernel) (by decide +kernel)
theorem G_ml_X9_227 : Cond.methodLink RX9 227 yX9_isSo ∈ G := mem_G 1122 (by decide +kernel) (by decide +kernel)
theorem G_im_X9_isSo : Cond.instanceMethod yX9_isSo ∈ G := mem_G 1124 (by decide +kernel) (by decide +kernel)
theorem G_cd_X9_isSo : Cond.code yX9_isSo cX9_isSo 3 (some .boolean) ∈ G := mem_G 1125 (by decide +kernel) (by decide +kernel)
theorem G_ml_X9_197 : Cond.methodLink RX9 197 yX9_isPrime ∈ G := mem_G 1126 (by decide +kernel) (by decide +kernel)
theorem G_st_X9_isPrime : Cond.static yX9_isPrime ∈ G := mem_G 1127 (by decide +kernel) (by decide +kernel)
theorem G_cd_X9_isPrime : Cond.code yX9_isPrime cX9_isPrime 2 (some .boolean) ∈ G := mem_G 1128 (by decide +kernel) (by decide +kernel)
theorem G_ml_L_110 : Cond.methodLink RL 110 yX9_spell ∈ G := mem_G 1129 (by decide +kernel) (by decide +kernel)
theorem G_im_X9_spell : Cond.instanceMethod yX9_spell ∈ G := mem_G 1130 (by decide +kernel) (by decide +kernel)
theorem G_se_X9_spell : Cond.selects RX9 yX9_spell yX9_spell ∈ G := mem_G 1131 (by decide +kernel) (by decide +kernel)
theorem G_cd_X9_spell : Cond.code yX9_spell cX9_spell 7 (some .int) ∈ G := mem_G 1132 (by decide +kernel) (by decide +kernel)
theorem G_ml_X9_230 : Cond.methodLink RX9 230 yX9_wholeSize ∈ G := mem_G 1133 (by decide +kernel) (by decide +kernel)
theorem G_im_X9_wholeSize : Cond.instanceMethod yX9_wholeSize ∈ G := mem_G 1135 (by decide +kernel) (by decide +kernel)
theorem G_cd_X9_wholeSize : Cond.code yX9_wholeSize cX9_wholeSize 4 (some .int) ∈ G := mem_G 1136 (by decide +kernel) (by decide +kernel)
theorem G_ml_X9_233 : Cond.methodLink RX9 233 yX9_wholeDigit ∈ G := mem_G 1137 (by decide +kernel) (by decide +kernel)
theorem G_im_X9_wholeDigit : Cond.instanceMethod yX9_wholeDigit ∈ G := mem_G 1139 (by decide +kernel) (by decide +kernel)
theorem G_cd_X9_wholeDigit : Cond.code yX9_wholeDigit cX9_wholeDigit 5 (some .int) ∈ G := mem_G 1140 (by decide +kernel) (by decide +kernel)
theorem G_ml_X9_236 : Cond.methodLink RX9 236 yX9_signOf ∈ G := mem_G 1141 (by decide +kernel) (by decide +kernel)
theorem G_st_X9_signOf : Cond.static yX9_signOf ∈ G := mem_G 1142 (by decide +kernel) (by decide +kernel)
theorem G_cd_X9_signOf : Cond.code yX9_signOf cX9_signOf 1 (some .int) ∈ G := mem_G 1143 (by decide +kernel) (by decide +kernel)
theorem G_ml_L_114 : Cond.methodLink RL 114 yX9_read ∈ G := mem_G 1144 (by decide +kernel) (by decide +kernel)
theorem G_im_X9_read : Cond.instanceMethod yX9_read ∈ G := mem_G 1145 (by decide +kernel) (by decide +kernel)
theorem G_se_X9_read : Cond.selects RX9 yX9_read yX9_read ∈ G := mem_G 1146 (by decide +kernel) (by decide +kernel)
theorem G_cd_X9_read : Cond.code yX9_read cX9_read 2 (some .int) ∈ G := mem_G 1147 (by decide +kernel) (by decide +kernel)
theorem G_ml_X9_264 : Cond.methodLink RX9 264 yX9_isNumeral ∈ G := mem_G 1148 (by decide +kernel) (by decide +kernel)
theorem G_im_X9_isNumeral : Cond.instanceMethod yX9_isNumeral ∈ G := mem_G 1150 (by decide +kernel) (by decide +kernel)
theorem G_cd_X9_isNumeral : Cond.code yX9_isNumeral cX9_isNumeral 3 (some .boolean) ∈ G := mem_G 1151 (by decide +kernel) (by decide +kernel)
theorem G_ml_X9_255 : Cond.methodLink RX9 255 yX9_readsDigits ∈ G := mem_G 1152 (by decide +kernel) (by decide +kernel)
theorem G_im_X9_readsDigits : Cond.instanceMethod yX9_readsDigits ∈ G := mem_G 1154 (by decide +kernel) (by decide +kernel)
theorem G_cd_X9_readsDigits : Cond.code yX9_readsDigits cX9_readsDigits 2 none ∈ G := mem_G 1155 (by decide +kernel) (by decide +kernel)
theorem G_ml_X9_252 : Cond.methodLink RX9 252 yX9_digitAt ∈ G := mem_G 1156 (by decide +kernel) (by decide +kernel)
theorem G_im_X9_digitAt : Cond.instanceMethod yX9_digitAt ∈ G := mem_G 1158 (by decide +kernel) (by decide +kernel)
theorem G_cd_X9_digitAt : Cond.code yX9_digitAt cX9_digitAt 1 (some .int) ∈ G := mem_G 1159 (by decide +kernel) (by decide +kernel)
theorem G_ml_X9_239 : Cond.methodLink RX9 239 yX9_isAt ∈ G := mem_G 1160 (by decide +kernel) (by decide +kernel)
theorem G_im_X9_isAt : Cond.instanceMethod yX9_isAt ∈ G := mem_G 1162 (by decide +kernel) (by decide +kernel)
theorem G_cd_X9_isAt : Cond.code yX9_isAt cX9_isAt 3 (some .boolean) ∈ G := mem_G 1163 (by decide +kernel) (by decide +kernel)
theorem G_ml_L_118 : Cond.methodLink RL 118 yX9_run ∈ G := mem_G 1164 (by decide +kernel) (by decide +kernel)
theorem G_im_X9_run : Cond.instanceMethod yX9_run ∈ G := mem_G 1165 (by decide +kernel) (by decide +kernel)
theorem G_se_X9_run : Cond.selects RX9 yX9_run yX9_run ∈ G := mem_G 1166 (by decide +kernel) (by decide +kernel)
theorem G_cd_X9_run : Cond.code yX9_run cX9_run 4 (some .int) ∈ G := mem_G 1167 (by decide +kernel) (by decide +kernel)
theorem G_ml_X9_288 : Cond.methodLink RX9 288 yX9_command ∈ G := mem_G 1168 (by decide +kernel) (by decide +kernel)
theorem G_im_X9_command : Cond.instanceMethod yX9_command ∈ G := mem_G 1170 (by decide +kernel) (by decide +kernel)
theorem G_cd_X9_command : Cond.code yX9_command cX9_command 5 (some .int) ∈ G := mem_G 1171 (by decide +kernel) (by decide +kernel)
theorem G_ml_X9_267 : Cond.methodLink RX9 267 yX9_commandOf ∈ G := mem_G 1172 (by decide +kernel) (by decide +kernel)
theorem G_im_X9_commandOf : Cond.instanceMethod yX9_commandOf ∈ G := mem_G 1174 (by decide +kernel) (by decide +kernel)
theorem G_cd_X9_commandOf : Cond.code yX9_commandOf cX9_commandOf 7 (some .int) ∈ G := mem_G 1175 (by decide +kernel) (by decide +kernel)
theorem G_ml_X9_270 : Cond.methodLink RX9 270 yX9_numbersOf ∈ G := mem_G 1176 (by decide +kernel) (by decide +kernel)
theorem G_st_X9_numbersOf : Cond.static yX9_numbersOf ∈ G := mem_G 1177 (by decide +kernel) (by decide +kernel)
theorem G_cd_X9_numbersOf : Cond.code yX9_numbersOf cX9_numbersOf 1 (some .int) ∈ G := mem_G 1178 (by decide +kernel) (by decide +kernel)
theorem G_ml_X9_291 : Cond.methodLink RX9 291 yX9_done ∈ G := mem_G 1179 (by decide +kernel) (by decide +kernel)
theorem G_im_X9_done : Cond.instanceMethod yX9_done ∈ G := mem_G 1181 (by decide +kernel) (by decide +kernel)
theorem G_cd_X9_done : Cond.code yX9_done cX9_done 2 (some .int) ∈ G := mem_G 1182 (by decide +kernel) (by decide +kernel)
theorem G_ml_X9_273 : Cond.methodLink RX9 273 yX9_fraction ∈ G := mem_G 1183 (by decide +kernel) (by decide +kernel)
theorem G_ml_X9_276 : Cond.methodLink RX9 276 yX9_drop ∈ G := mem_G 1184 (by decide +kernel) (by decide +kernel)
theorem G_ml_X9_279 : Cond.methodLink RX9 279 yX9_multiply ∈ G := mem_G 1185 (by decide +kernel) (by decide +kernel)
theorem G_ml_X9_282 : Cond.methodLink RX9 282 yX9_sum ∈ G := mem_G 1186 (by decide +kernel) (by decide +kernel)
theorem G_ml_X9_285 : Cond.methodLink RX9 285 yX9_lowest ∈ G := mem_G 1187 (by decide +kernel) (by decide +kernel)
theorem G_ml_L_122 : Cond.methodLink RL 122 yX9_hold ∈ G := mem_G 1188 (by decide +kernel) (by decide +kernel)
theorem G_im_X9_hold : Cond.instanceMethod yX9_hold ∈ G := mem_G 1189 (by decide +kernel) (by decide +kernel)
theorem G_se_X9_hold : Cond.selects RX9 yX9_hold yX9_hold ∈ G := mem_G 1190 (by decide +kernel) (by decide +kernel)
theorem G_cd_X9_hold : Cond.code yX9_hold cX9_hold 3 (some .int) ∈ G := mem_G 1191 (by decide +kernel) (by decide +kernel)
theorem G_ml_X9_294 : Cond.methodLink RX9 294 yX9_isHolder ∈ G := mem_G 1192 (by decide +kernel) (by decide +kernel)
theorem G_st_X9_isHolder : Cond.static yX9_isHolder ∈ G := mem_G 1193 (by decide +kernel) (by decide +kernel)
theorem G_cd_X9_isHolder : Cond.code yX9_isHolder cX9_isHolder 1 (some .boolean) ∈ G := mem_G 1194 (by decide +kernel) (by decide +kernel)
theorem G_ml_X9_297 : Cond.methodLink RX9 297 yX9_looksHeld ∈ G := mem_G 1195 (by decide +kernel) (by decide +kernel)
theorem G_im_X9_looksHeld : Cond.instanceMethod yX9_looksHeld ∈ G := mem_G 1197 (by decide +kernel) (by decide +kernel)
theorem G_cd_X9_looksHeld : Cond.code yX9_looksHeld cX9_looksHeld 2 none ∈ G := mem_G 1198 (by decide +kernel) (by decide +kernel)
theorem G_ml_L_126 : Cond.methodLink RL 126 yX9_lose ∈ G := mem_G 1199 (by decide +kernel) (by decide +kernel)
theorem G_im_X9_lose : Cond.instanceMethod yX9_lose ∈ G := mem_G 1200 (by decide +kernel) (by decide +kernel)
theorem G_se_X9_lose : Cond.selects RX9 yX9_lose yX9_lose ∈ G := mem_G 1201 (by decide +kernel) (by decide +kernel)
theorem G_cd_X9_lose : Cond.code yX9_lose cX9_lose 3 (some .int) ∈ G := mem_G 1202 (by decide +kernel) (by decide +kernel)
theorem G_ml_L_130 : Cond.methodLink RL 130 yX9_taken ∈ G := mem_G 1203 (by decide +kernel) (by decide +kernel)
theorem G_im_X9_taken : Cond.instanceMethod yX9_taken ∈ G := mem_G 1204 (by decide +kernel) (by decide +kernel)
theorem G_se_X9_taken : Cond.selects RX9 yX9_taken yX9_taken ∈ G := mem_G 1205 (by decide +kernel) (by decide +kernel)
theorem G_cd_X9_taken : Cond.code yX9_taken cX9_taken 4 (some .int) ∈ G := mem_G 1206 (by decide +kernel) (by decide +kernel)
theorem G_co_X9_300 : Cond.constantLong RX9 300 (3 : Int64) ∈ G := mem_G 1207 (by decide +kernel) (by decide +kernel)
theorem G_ml_X9_302 : Cond.methodLink RX9 302 yX9_whyNot ∈ G := mem_G 1208 (by decide +kernel) (by decide +kernel)
theorem G_im_X9_whyNot : Cond.instanceMethod yX9_whyNot ∈ G := mem_G 1210 (by decide +kernel) (by decide +kernel)
theorem G_cd_X9_whyNot : Cond.code yX9_whyNot cX9_whyNot 3 (some .int) ∈ G := mem_G 1211 (by decide +kernel) (by decide +kernel)
theorem G_ml_L_134 : Cond.methodLink RL 134 yX9_was ∈ G := mem_G 1212 (by decide +kernel) (by decide +kernel)
theorem G_im_X9_was : Cond.instanceMethod yX9_was ∈ G := mem_G 1213 (by decide +kernel) (by decide +kernel)
theorem G_se_X9_was : Cond.selects RX9 yX9_was yX9_was ∈ G := mem_G 1214 (by decide +kernel) (by decide +kernel)
theorem G_cd_X9_was : Cond.code yX9_was cX9_was 4 (some .int) ∈ G := mem_G 1215 (by decide +kernel) (by decide +kernel)
theorem G_ml_L_138 : Cond.methodLink RL 138 yX9_row ∈ G := mem_G 1216 (by decide +kernel) (by decide +kernel)
theorem G_im_X9_row : Cond.instanceMethod yX9_row ∈ G := mem_G 1217 (by decide +kernel) (by decide +kernel)
theorem G_se_X9_row : Cond.selects RX9 yX9_row yX9_row ∈ G := mem_G 1218 (by decide +kernel) (by decide +kernel)
theorem G_cd_X9_row : Cond.code yX9_row cX9_row 4 (some .int) ∈ G := mem_G 1219 (by decide +kernel) (by decide +kernel)
theorem G_ml_L_142 : Cond.methodLink RL 142 yX9_put ∈ G := mem_G 1220 (by decide +kernel) (by decide +kernel)
theorem G_im_X9_put : Cond.instanceMethod yX9_put ∈ G := mem_G 1221 (by decide +kernel) (by decide +kernel)
theorem G_se_X9_put : Cond.selects RX9 yX9_put yX9_put ∈ G := mem_G 1222 (by decide +kernel) (by decide +kernel)
theorem G_cd_X9_put : Cond.code yX9_put cX9_put 5 (some .int) ∈ G := mem_G 1223 (by decide +kernel) (by decide +kernel)
theorem G_ml_L_147 : Cond.methodLink RL 147 yX9_get ∈ G := mem_G 1224 (by decide +kernel) (by decide +kernel)
theorem G_im_X9_get : Cond.instanceMethod yX9_get ∈ G := mem_G 1225 (by decide +kernel) (by decide +kernel)
theorem G_se_X9_get : Cond.selects RX9 yX9_get yX9_get ∈ G := mem_G 1226 (by decide +kernel) (by decide +kernel)
theorem G_cd_X9_get : Cond.code yX9_get cX9_get 3 (some .long) ∈ G := mem_G 1227 (by decide +kernel) (by decide +kernel)
theorem G_ml_L_151 : Cond.methodLink RL 151 yX9_judge ∈ G := mem_G 1228 (by decide +kernel) (by decide +kernel)
theorem G_im_X9_judge : Cond.instanceMethod yX9_judge ∈ G := mem_G 1229 (by decide +kernel) (by decide +kernel)
theorem G_se_X9_judge : Cond.selects RX9 yX9_judge yX9_judge ∈ G := mem_G 1230 (by decide +kernel) (by decide +kernel)
theorem G_cd_X9_judge : Cond.code yX9_judge cX9_judge 5 (some .int) ∈ G := mem_G 1231 (by decide +kernel) (by decide +kernel)
theorem G_ml_L_155 : Cond.methodLink RL 155 yX9_image ∈ G := mem_G 1232 (by decide +kernel) (by decide +kernel)
theorem G_im_X9_image : Cond.instanceMethod yX9_image ∈ G := mem_G 1233 (by decide +kernel) (by decide +kernel)
theorem G_se_X9_image : Cond.selects RX9 yX9_image yX9_image ∈ G := mem_G 1234 (by decide +kernel) (by decide +kernel)
theorem G_cd_X9_image : Cond.code yX9_image cX9_image 2 (some .int) ∈ G := mem_G 1235 (by decide +kernel) (by decide +kernel)
theorem G_ml_L_159 : Cond.methodLink RL 159 yX9_undo ∈ G := mem_G 1236 (by decide +kernel) (by decide +kernel)
theorem G_im_X9_undo : Cond.instanceMethod yX9_undo ∈ G := mem_G 1237 (by decide +kernel) (by decide +kernel)
theorem G_se_X9_undo : Cond.selects RX9 yX9_undo yX9_undo ∈ G := mem_G 1238 (by decide +kernel) (by decide +kernel)
theorem G_cd_X9_undo : Cond.code yX9_undo cX9_undo 2 (some .int) ∈ G := mem_G 1239 (by decide +kernel) (by decide +kernel)
theorem G_ml_L_163 : Cond.methodLink RL 163 yX9_count ∈ G := mem_G 1240 (by decide +kernel) (by decide +kernel)
theorem G_im_X9_count : Cond.instanceMethod yX9_count ∈ G := mem_G 1241 (by decide +kernel) (by decide +kernel)
theorem G_se_X9_count : Cond.selects RX9 yX9_count yX9_count ∈ G := mem_G 1242 (by decide +kernel) (by decide +kernel)
theorem G_cd_X9_count : Cond.code yX9_count cX9_count 2 (some .int) ∈ G := mem_G 1243 (by decide +kernel) (by decide +kernel)
theorem G_fl_J0_9 : Cond.fieldLink RJ0 9 "java/lang/String" "value" "[B" ∈ G := mem_G 1244 (by decide +kernel) (by decide +kernel)
theorem G_fl_J0_15 : Cond.fieldLink RJ0 15 "java/lang/String" "coder" "B" ∈ G := mem_G 1245 (by decide +kernel) (by decide +kernel)
theorem inG_X0 : ∀ w ∈ wsX00, w ∈ G := mem_Gs [129, 131, 133, 135] (by decide +kernel) (by decide +kernel)
theorem inG_X1 : ∀ w ∈ wsX10, w ∈ G := mem_Gs [91, 93, 95, 97, 99, 101, 103] (by decide +kernel) (by decide +kernel)
theorem inG_X2 : ∀ w ∈ wsX20, w ∈ G := mem_Gs [227, 229, 231, 233] (by decide +kernel) (by decide +kernel)
theorem inG_X3 : ∀ w ∈ wsX30, w ∈ G := mem_Gs [174, 176] (by decide +kernel) (by decide +kernel)
theorem inG_X4 : ∀ w ∈ wsX40, w ∈ G := mem_Gs [206, 208] (by decide +kernel) (by decide +kernel)
theorem inG_X5 : ∀ w ∈ wsX50, w ∈ G := mem_Gs [189, 191, 193] (by decide +kernel) (by decide +kernel)
theorem inG_X6 : ∀ w ∈ wsX60, w ∈ G := mem_Gs [109, 111] (by decide +kernel) (by decide +kernel)
theorem inG_X7 : ∀ w ∈ wsX70, w ∈ G := mem_Gs [155, 157, 159, 161] (by decide +kernel) (by decide +kernel)
theorem inG_X8 : ∀ w ∈ wsX80, w ∈ G := mem_Gs [248, 250, 252, 254, 256, 258, 260, 262, 264, 266, 268, 270] (by decide +kernel) (by decide +kernel)
theorem inG_X9 : ∀ w ∈ wsX90, w ∈ G := mem_Gs [853, 855, 857, 859, 861, 863, 865, 867, 869, 871, 873, 875, 877, 879, 881, 883, 885, 887, 889, 891, 893, 895, 897, 899, 901, 903, 905, 907, 909, 911, 913, 915, 917, 919, 921, 923, 925, 927, 929, 931, 933, 935, 937, 939] (by decide +kernel) (by decide +kernel)
theorem gv_L_13 : GoodIn G (wsV RL 13 RX8 yX8_fraction (wW yX8_fraction cX8_fraction 4 (some .int))) := good_V G_ml_L_13 G_im_X8_fraction G_se_X8_fraction G_in_X8 G_cd_X8_fraction
theorem gs_X8_81 : GoodIn G (va_wsS RX8 81 yX8_isWithin (wW yX8_isWithin cX8_isWithin 3 (some .boolean))) := good_S G_ml_X8_81 G_st_X8_isWithin G_in_X8 G_cd_X8_isWithin
theorem gs_X8_85 : GoodIn G (va_wsS RX8 85 yX8_isBase (wW yX8_isBase cX8_isBase 1 (some .boolean))) := good_S G_ml_X8_85 G_st_X8_isBase G_in_X8 G_cd_X8_isBase
theorem gv_X8_89 : GoodIn G (wsV RX8 89 RX6 yX6_add (wW yX6_add cX6_add 4 (some .int))) := good_V G_ml_X8_89 G_im_X6_add G_se_X6_add G_in_X6 G_cd_X6_add
theorem gv_X6_22 : GoodIn G (wsV RX6 22 RX1 yX1_become (wW yX1_become cX1_become 5 none)) := good_V G_ml_X6_22 G_im_X1_become G_se_X1_become G_in_X1 G_cd_X1_become
theorem gv_X1_45 : GoodIn G (wsV RX1 45 RX1 yX1_turns (wW yX1_turns cX1_turns 2 (some .boolean))) := good_V G_ml_X1_45 G_im_X1_turns G_se_X1_turns G_in_X1 G_cd_X1_turns
theorem gv_X1_49 : GoodIn G (wsV RX1 49 RX1 yX1_restAfter (wW yX1_restAfter cX1_restAfter 2 (some .int))) := good_V G_ml_X1_49 G_im_X1_restAfter G_se_X1_restAfter G_in_X1 G_cd_X1_restAfter
theorem gv_L_18 : GoodIn G (wsV RL 18 RX8 yX8_drop (wW yX8_drop cX8_drop 2 (some .int))) := good_V G_ml_L_18 G_im_X8_drop G_se_X8_drop G_in_X8 G_cd_X8_drop
theorem gv_X8_93 : GoodIn G (wsV RX8 93 RX6 yX6_takeAway (wW yX6_takeAway cX6_takeAway 3 (some .int))) := good_V G_ml_X8_93 G_im_X6_takeAway G_se_X6_takeAway G_in_X6 G_cd_X6_takeAway
theorem gv_X6_26 : GoodIn G (wsV RX6 26 RX6 yX6_at (wW yX6_at cX6_at 2 (some (.object "TurningFractions$Fraction")))) := good_V G_ml_X6_26 G_im_X6_at G_se_X6_at G_in_X6 G_cd_X6_at
theorem gv_X6_30 : GoodIn G (wsV RX6 30 RX1 yX1_becomeLike (wW yX1_becomeLike cX1_becomeLike 2 none)) := good_V G_ml_X6_30 G_im_X1_becomeLike G_se_X1_becomeLike G_in_X1 G_cd_X1_becomeLike
theorem gv_L_23 : GoodIn G (wsV RL 23 RX8 yX8_multiply (wW yX8_multiply cX8_multiply 5 (some .int))) := good_V G_ml_L_23 G_im_X8_multiply G_se_X8_multiply G_in_X8 G_cd_X8_multiply
theorem gv_X8_97 : GoodIn G (wsV RX8 97 RX6 yX6_at (wW yX6_at cX6_at 2 (some (.object "TurningFractions$Fraction")))) := good_V G_ml_X8_97 G_im_X6_at G_se_X6_at G_in_X6 G_cd_X6_at
theorem gv_X8_111 : GoodIn G (wsV RX8 111 RX1 yX1_become (wW yX1_become cX1_become 5 none)) := good_V G_ml_X8_111 G_im_X1_become G_se_X1_become G_in_X1 G_cd_X1_become
theorem gv_L_28 : GoodIn G (wsV RL 28 RX8 yX8_sum (wW yX8_sum cX8_sum 6 (some .int))) := good_V G_ml_L_28 G_im_X8_sum G_se_X8_sum G_in_X8 G_cd_X8_sum
theorem gv_X8_115 : GoodIn G (wsV RX8 115 RX8 yX8_addInLowestTerms (wW yX8_addInLowestTerms cX8_addInLowestTerms 12 (some .int))) := good_V G_ml_X8_115 G_im_X8_addInLowestTerms G_se_X8_addInLowestTerms G_in_X8 G_cd_X8_addInLowestTerms
theorem gs_X8_119 : GoodIn G (va_wsS RX8 119 yX8_commonDivisor (wW yX8_commonDivisor cX8_commonDivisor 11 (some .long))) := good_S G_ml_X8_119 G_st_X8_commonDivisor G_in_X8 G_cd_X8_commonDivisor
theorem gs_X8_123 : GoodIn G (va_wsS RX8 123 yX8_quotient (wW yX8_quotient cX8_quotient 4 (some .long))) := good_S G_ml_X8_123 G_st_X8_quotient G_in_X8 G_cd_X8_quotient
theorem gv_L_32 : GoodIn G (wsV RL 32 RX8 yX8_lowest (wW yX8_lowest cX8_lowest 5 (some .int))) := good_V G_ml_L_32 G_im_X8_lowest G_se_X8_lowest G_in_X8 G_cd_X8_lowest
theorem gv_L_36 : GoodIn G (wsV RL 36 RX8 yX8_of (wW yX8_of cX8_of 4 (some .int))) := good_V G_ml_L_36 G_im_X8_of G_se_X8_of G_in_X8 G_cd_X8_of
theorem gv_X8_126 : GoodIn G (wsV RX8 126 RX1 yX1_whole (wW yX1_whole cX1_whole 1 (some .int))) := good_V G_ml_X8_126 G_im_X1_whole G_se_X1_whole G_in_X1 G_cd_X1_whole
theorem gv_X8_136 : GoodIn G (wsV RX8 136 RX1 yX1_kind (wW yX1_kind cX1_kind 1 (some .int))) := good_V G_ml_X8_136 G_im_X1_kind G_se_X1_kind G_in_X1 G_cd_X1_kind
theorem gv_X1_56 : GoodIn G (wsV RX1 56 RX1 yX1_ends (wW yX1_ends cX1_ends 1 (some .boolean))) := good_V G_ml_X1_56 G_im_X1_ends G_se_X1_ends G_in_X1 G_cd_X1_ends
theorem gv_L_40 : GoodIn G (wsV RL 40 RX8 yX8_digit (wW yX8_digit cX8_digit 4 (some .int))) := good_V G_ml_L_40 G_im_X8_digit G_se_X8_digit G_in_X8 G_cd_X8_digit
theorem gv_X8_139 : GoodIn G (wsV RX8 139 RX1 yX1_restAt (wW yX1_restAt cX1_restAt 5 (some .int))) := good_V G_ml_X8_139 G_im_X1_restAt G_se_X1_restAt G_in_X1 G_cd_X1_restAt
theorem gv_X8_142 : GoodIn G (wsV RX8 142 RX1 yX1_digitOf (wW yX1_digitOf cX1_digitOf 2 (some .int))) := good_V G_ml_X8_142 G_im_X1_digitOf G_se_X1_digitOf G_in_X1 G_cd_X1_digitOf
theorem gv_L_44 : GoodIn G (wsV RL 44 RX8 yX8_rest (wW yX8_rest cX8_rest 4 (some .int))) := good_V G_ml_L_44 G_im_X8_rest G_se_X8_rest G_in_X8 G_cd_X8_rest
theorem gv_L_48 : GoodIn G (wsV RL 48 RX8 yX8_place (wW yX8_place cX8_place 4 (some .int))) := good_V G_ml_L_48 G_im_X8_place G_se_X8_place G_in_X8 G_cd_X8_place
theorem gv_X8_145 : GoodIn G (wsV RX8 145 RX1 yX1_placeOfDigit (wW yX1_placeOfDigit cX1_placeOfDigit 4 (some .int))) := good_V G_ml_X8_145 G_im_X1_placeOfDigit G_se_X1_placeOfDigit G_in_X1 G_cd_X1_placeOfDigit
theorem gv_X1_60 : GoodIn G (wsV RX1 60 RX1 yX1_digitOf (wW yX1_digitOf cX1_digitOf 2 (some .int))) := good_V G_ml_X1_60 G_im_X1_digitOf G_se_X1_digitOf G_in_X1 G_cd_X1_digitOf
theorem gv_L_52 : GoodIn G (wsV RL 52 RX8 yX8_block (wW yX8_block cX8_block 5 (some .int))) := good_V G_ml_L_52 G_im_X8_block G_se_X8_block G_in_X8 G_cd_X8_block
theorem gv_X8_148 : GoodIn G (wsV RX8 148 RX1 yX1_partsInto (wW yX1_partsInto cX1_partsInto 2 (some .boolean))) := good_V G_ml_X8_148 G_im_X1_partsInto G_se_X1_partsInto G_in_X1 G_cd_X1_partsInto
theorem gv_X8_151 : GoodIn G (wsV RX8 151 RX1 yX1_blockWidth (wW yX1_blockWidth cX1_blockWidth 2 (some .int))) := good_V G_ml_X8_151 G_im_X1_blockWidth G_se_X1_blockWidth G_in_X1 G_cd_X1_blockWidth
theorem gv_X8_154 : GoodIn G (wsV RX8 154 RX4 yX4_load (wW yX4_load cX4_load 4 none)) := good_V G_ml_X8_154 G_im_X4_load G_se_X4_load G_in_X4 G_cd_X4_load
theorem gv_X4_25 : GoodIn G (wsV RX4 25 RX1 yX1_digitOf (wW yX1_digitOf cX1_digitOf 2 (some .int))) := good_V G_ml_X4_25 G_im_X1_digitOf G_se_X1_digitOf G_in_X1 G_cd_X1_digitOf
theorem gv_X4_33 : GoodIn G (wsV RX4 33 RX1 yX1_restAfter (wW yX1_restAfter cX1_restAfter 2 (some .int))) := good_V G_ml_X4_33 G_im_X1_restAfter G_se_X1_restAfter G_in_X1 G_cd_X1_restAfter
theorem gv_X8_158 : GoodIn G (wsV RX8 158 RX4 yX4_placeOfBlocks (wW yX4_placeOfBlocks cX4_placeOfBlocks 9 (some .int))) := good_V G_ml_X8_158 G_im_X4_placeOfBlocks G_se_X4_placeOfBlocks G_in_X4 G_cd_X4_placeOfBlocks
theorem gv_L_56 : GoodIn G (wsV RL 56 RX8 yX8_nines (wW yX8_nines cX8_nines 4 (some .int))) := good_V G_ml_L_56 G_im_X8_nines G_se_X8_nines G_in_X8 G_cd_X8_nines
theorem gv_X8_162 : GoodIn G (wsV RX8 162 RX1 yX1_ninesOfBlocks (wW yX1_ninesOfBlocks cX1_ninesOfBlocks 6 (some .int))) := good_V G_ml_X8_162 G_im_X1_ninesOfBlocks G_se_X1_ninesOfBlocks G_in_X1 G_cd_X1_ninesOfBlocks
theorem gv_X1_67 : GoodIn G (wsV RX1 67 RX1 yX1_blockWidth (wW yX1_blockWidth cX1_blockWidth 2 (some .int))) := good_V G_ml_X1_67 G_im_X1_blockWidth G_se_X1_blockWidth G_in_X1 G_cd_X1_blockWidth
theorem gv_L_60 : GoodIn G (wsV RL 60 RX8 yX8_shift (wW yX8_shift cX8_shift 4 (some .int))) := good_V G_ml_L_60 G_im_X8_shift G_se_X8_shift G_in_X8 G_cd_X8_shift
theorem gv_X8_165 : GoodIn G (wsV RX8 165 RX1 yX1_turningRestTimes (wW yX1_turningRestTimes cX1_turningRestTimes 4 (some .int))) := good_V G_ml_X8_165 G_im_X1_turningRestTimes G_se_X1_turningRestTimes G_in_X1 G_cd_X1_turningRestTimes
theorem gv_X8_168 : GoodIn G (wsV RX8 168 RX1 yX1_placeInPeriod (wW yX1_placeInPeriod cX1_placeInPeriod 4 (some .int))) := good_V G_ml_X8_168 G_im_X1_placeInPeriod G_se_X1_placeInPeriod G_in_X1 G_cd_X1_placeInPeriod
theorem gv_L_64 : GoodIn G (wsV RL 64 RX8 yX8_multiple (wW yX8_multiple cX8_multiple 6 (some .int))) := good_V G_ml_L_64 G_im_X8_multiple G_se_X8_multiple G_in_X8 G_cd_X8_multiple
theorem gv_L_68 : GoodIn G (wsV RL 68 RX8 yX8_order (wW yX8_order cX8_order 6 (some .int))) := good_V G_ml_L_68 G_im_X8_order G_se_X8_order G_in_X8 G_cd_X8_order
theorem gs_X8_171 : GoodIn G (va_wsS RX8 171 yX8_remainder (wW yX8_remainder cX8_remainder 2 (some .int))) := good_S G_ml_X8_171 G_st_X8_remainder G_in_X8 G_cd_X8_remainder
theorem gv_L_72 : GoodIn G (wsV RL 72 RX8 yX8_cycles (wW yX8_cycles cX8_cycles 8 (some .int))) := good_V G_ml_L_72 G_im_X8_cycles G_se_X8_cycles G_in_X8 G_cd_X8_cycles
theorem gs_X8_175 : GoodIn G (va_wsS RX8 175 yX8_setAt (wW yX8_setAt cX8_setAt 3 none)) := good_S G_ml_X8_175 G_st_X8_setAt G_in_X8 G_cd_X8_setAt
theorem gv_X8_179 : GoodIn G (wsV RX8 179 RX8 yX8_markRing (wW yX8_markRing cX8_markRing 6 (some .int))) := good_V G_ml_X8_179 G_im_X8_markRing G_se_X8_markRing G_in_X8 G_cd_X8_markRing
theorem gs_X8_216 : GoodIn G (va_wsS RX8 216 yX8_valueAt (wW yX8_valueAt cX8_valueAt 2 (some .int))) := good_S G_ml_X8_216 G_st_X8_valueAt G_in_X8 G_cd_X8_valueAt
theorem gs_X8_182 : GoodIn G (va_wsS RX8 182 yJ9_max_7cf53 (wW yJ9_max_7cf53 cJ9_max_7cf53 2 (some .int))) := good_S G_ml_X8_182 G_st_J9_max_7cf53 G_in_J9 G_cd_J9_max_7cf53
theorem gv_L_76 : GoodIn G (wsV RL 76 RX8 yX8_full (wW yX8_full cX8_full 10 (some .int))) := good_V G_ml_L_76 G_im_X8_full G_se_X8_full G_in_X8 G_cd_X8_full
theorem gv_X8_187 : GoodIn G (wsV RX8 187 RX1 yX1_isFullUnit (wW yX1_isFullUnit cX1_isFullUnit 1 (some .boolean))) := good_V G_ml_X8_187 G_im_X1_isFullUnit G_se_X1_isFullUnit G_in_X1 G_cd_X1_isFullUnit
theorem gv_L_81 : GoodIn G (wsV RL 81 RX8 yX8_list (wW yX8_list cX8_list 3 (some .int))) := good_V G_ml_L_81 G_im_X8_list G_se_X8_list G_in_X8 G_cd_X8_list
theorem gv_X8_191 : GoodIn G (wsV RX8 191 RX0 yX0_fillTo (wW yX0_fillTo cX0_fillTo 4 none)) := good_V G_ml_X8_191 G_im_X0_fillTo G_se_X0_fillTo G_in_X0 G_cd_X0_fillTo
theorem gv_L_85 : GoodIn G (wsV RL 85 RX8 yX8_thin (wW yX8_thin cX8_thin 3 (some .int))) := good_V G_ml_L_85 G_im_X8_thin G_se_X8_thin G_in_X8 G_cd_X8_thin
theorem gv_X8_198 : GoodIn G (wsV RX8 198 RX7 yX7_bears (wW yX7_bears cX7_bears 5 (some .boolean))) := good_V G_ml_X8_198 G_im_X7_bears G_se_X7_bears G_in_X7 G_cd_X7_bears
theorem gv_X7_34 : GoodIn G (wsV RX7 34 RJ0 yJ0_length_8abf5 (wW yJ0_length_8abf5 cJ0_length_8abf5 1 (some .int))) := good_V G_ml_X7_34 G_im_J0_length_8abf5 G_se_J0_length_8abf5 G_in_J0 G_cd_J0_length_8abf5
theorem gv_J0_335 : GoodIn G (wsV RJ0 335 RJ0 yJ0_coder_7d493 (wW yJ0_coder_7d493 cJ0_coder_7d493 1 (some .byte))) := good_V G_ml_J0_335 G_im_J0_coder_7d493 G_se_J0_coder_7d493 G_in_J0 G_cd_J0_coder_7d493
theorem gv_X7_39 : GoodIn G (wsV RX7 39 RX7 yX7_byteAt (wW yX7_byteAt cX7_byteAt 2 (some .int))) := good_V G_ml_X7_39 G_im_X7_byteAt G_se_X7_byteAt G_in_X7 G_cd_X7_byteAt
theorem gv_X7_43 : GoodIn G (wsV RX7 43 RJ0 yJ0_charAt_5068e (wW yJ0_charAt_5068e cJ0_charAt_5068e 2 (some .char))) := good_V G_ml_X7_43 G_im_J0_charAt_5068e G_se_J0_charAt_5068e G_in_J0 G_cd_J0_charAt_5068e
theorem gv_J0_492 : GoodIn G (wsV RJ0 492 RJ0 yJ0_isLatin1_aae02 (wW yJ0_isLatin1_aae02 cJ0_isLatin1_aae02 1 (some .boolean))) := good_V G_ml_J0_492 G_im_J0_isLatin1_aae02 G_se_J0_isLatin1_aae02 G_in_J0 G_cd_J0_isLatin1_aae02
theorem gs_J0_495 : GoodIn G (va_wsS RJ0 495 yJ1_charAt_3b067 (wW yJ1_charAt_3b067 cJ1_charAt_3b067 2 (some .char))) := good_S G_ml_J0_495 G_st_J1_charAt_3b067 G_in_J1 G_cd_J1_charAt_3b067
theorem gs_J1_9 : GoodIn G (va_wsS RJ1 9 yJ0_checkIndex_df160 (wW yJ0_checkIndex_df160 cJ0_checkIndex_df160 2 none)) := good_S G_ml_J1_9 G_st_J0_checkIndex_df160 G_in_J0 G_cd_J0_checkIndex_df160
theorem gs_J0_1059 : GoodIn G (va_wsS RJ0 1059 yJ3_checkIndex_8e157 (wW yJ3_checkIndex_8e157 cJ3_checkIndex_8e157 3 (some .int))) := good_S G_ml_J0_1059 G_st_J3_checkIndex_8e157 G_in_J3 G_cd_J3_checkIndex_8e157
theorem gs_J0_498 : GoodIn G (va_wsS RJ0 498 yJ2_charAt_3b067 (wW yJ2_charAt_3b067 cJ2_charAt_3b067 2 (some .char))) := good_S G_ml_J0_498 G_st_J2_charAt_3b067 G_in_J2 G_cd_J2_charAt_3b067
theorem gs_J2_67 : GoodIn G (va_wsS RJ2 67 yJ2_checkIndex_2214a (wW yJ2_checkIndex_2214a cJ2_checkIndex_2214a 2 none)) := good_S G_ml_J2_67 G_st_J2_checkIndex_2214a G_in_J2 G_cd_J2_checkIndex_2214a
theorem gs_J2_48 : GoodIn G (va_wsS RJ2 48 yJ2_length_9d52b (wW yJ2_length_9d52b cJ2_length_9d52b 1 (some .int))) := good_S G_ml_J2_48 G_st_J2_length_9d52b G_in_J2 G_cd_J2_length_9d52b
theorem gs_J2_414 : GoodIn G (va_wsS RJ2 414 yJ0_checkIndex_df160 (wW yJ0_checkIndex_df160 cJ0_checkIndex_df160 2 none)) := good_S G_ml_J2_414 G_st_J0_checkIndex_df160 G_in_J0 G_cd_J0_checkIndex_df160
theorem gs_J2_71 : GoodIn G (va_wsS RJ2 71 yJ2_getChar_3b067 (wW yJ2_getChar_3b067 cJ2_getChar_3b067 2 (some .char))) := good_S G_ml_J2_71 G_st_J2_getChar_3b067 G_in_J2 G_cd_J2_getChar_3b067
theorem gs_X8_202 : GoodIn G (va_wsS RX8 202 yX0_wordOn (wW yX0_wordOn cX0_wordOn 3 (some .int))) := good_S G_ml_X8_202 G_st_X0_wordOn G_in_X0 G_cd_X0_wordOn
theorem gs_X0_40 : GoodIn G (va_wsS RX0 40 yX0_wordText (wW yX0_wordText cX0_wordText 1 (some (.object "java/lang/String")))) := good_S G_ml_X0_40 G_st_X0_wordText G_in_X0 G_cd_X0_wordText
theorem gv_X0_44 : GoodIn G (wsV RX0 44 RX7 yX7_bears (wW yX7_bears cX7_bears 5 (some .boolean))) := good_V G_ml_X0_44 G_im_X7_bears G_se_X7_bears G_in_X7 G_cd_X7_bears
theorem gv_X8_206 : GoodIn G (wsV RX8 206 RX7 yX7_clear (wW yX7_clear cX7_clear 1 none)) := good_V G_ml_X8_206 G_im_X7_clear G_se_X7_clear G_in_X7 G_cd_X7_clear
theorem gv_X8_209 : GoodIn G (wsV RX8 209 RX0 yX0_keepOnly (wW yX0_keepOnly cX0_keepOnly 6 none)) := good_V G_ml_X8_209 G_im_X0_keepOnly G_se_X0_keepOnly G_in_X0 G_cd_X0_keepOnly
theorem gv_X0_64 : GoodIn G (wsV RX0 64 RX0 yX0_isSo (wW yX0_isSo cX0_isSo 4 (some .boolean))) := good_V G_ml_X0_64 G_im_X0_isSo G_se_X0_isSo G_in_X0 G_cd_X0_isSo
theorem gv_X0_68 : GoodIn G (wsV RX0 68 RX1 yX1_become (wW yX1_become cX1_become 5 none)) := good_V G_ml_X0_68 G_im_X1_become G_se_X1_become G_in_X1 G_cd_X1_become
theorem gv_X0_73 : GoodIn G (wsV RX0 73 RX1 yX1_ends (wW yX1_ends cX1_ends 1 (some .boolean))) := good_V G_ml_X0_73 G_im_X1_ends G_se_X1_ends G_in_X1 G_cd_X1_ends
theorem gv_X0_76 : GoodIn G (wsV RX0 76 RX1 yX1_kind (wW yX1_kind cX1_kind 1 (some .int))) := good_V G_ml_X0_76 G_im_X1_kind G_se_X1_kind G_in_X1 G_cd_X1_kind
theorem gv_X0_80 : GoodIn G (wsV RX0 80 RX1 yX1_isFullUnit (wW yX1_isFullUnit cX1_isFullUnit 1 (some .boolean))) := good_V G_ml_X0_80 G_im_X1_isFullUnit G_se_X1_isFullUnit G_in_X1 G_cd_X1_isFullUnit
theorem gv_X0_83 : GoodIn G (wsV RX0 83 RX1 yX1_ninesOfBlocks (wW yX1_ninesOfBlocks cX1_ninesOfBlocks 6 (some .int))) := good_V G_ml_X0_83 G_im_X1_ninesOfBlocks G_se_X1_ninesOfBlocks G_in_X1 G_cd_X1_ninesOfBlocks
theorem gv_L_90 : GoodIn G (wsV RL 90 RX8 yX8_listed (wW yX8_listed cX8_listed 2 (some .int))) := good_V G_ml_L_90 G_im_X8_listed G_se_X8_listed G_in_X8 G_cd_X8_listed
theorem gv_L_94 : GoodIn G (wsV RL 94 RX8 yX8_tells (wW yX8_tells cX8_tells 5 (some .long))) := good_V G_ml_L_94 G_im_X8_tells G_se_X8_tells G_in_X8 G_cd_X8_tells
theorem gv_X8_222 : GoodIn G (wsV RX8 222 RX4 yX4_worthTogether (wW yX4_worthTogether cX4_worthTogether 6 (some .long))) := good_V G_ml_X8_222 G_im_X4_worthTogether G_se_X4_worthTogether G_in_X4 G_cd_X4_worthTogether
theorem gs_X4_48 : GoodIn G (va_wsS RX4 48 yX4_worth (wW yX4_worth cX4_worth 4 (some .int))) := good_S G_ml_X4_48 G_st_X4_worth G_in_X4 G_cd_X4_worth
theorem gs_X4_52 : GoodIn G (va_wsS RX4 52 yJ9_min_7cf53 (wW yJ9_min_7cf53 cJ9_min_7cf53 2 (some .int))) := good_S G_ml_X4_52 G_st_J9_min_7cf53 G_in_J9 G_cd_J9_min_7cf53
theorem gv_L_99 : GoodIn G (wsV RL 99 RX8 yX8_feed (wW yX8_feed cX8_feed 4 (some .int))) := good_V G_ml_L_99 G_im_X8_feed G_se_X8_feed G_in_X8 G_cd_X8_feed
theorem gv_X8_227 : GoodIn G (wsV RX8 227 RX7 yX7_add (wW yX7_add cX7_add 2 none)) := good_V G_ml_X8_227 G_im_X7_add G_se_X7_add G_in_X7 G_cd_X7_add
theorem gv_L_103 : GoodIn G (wsV RL 103 RX8 yX8_wipe (wW yX8_wipe cX8_wipe 2 (some .int))) := good_V G_ml_L_103 G_im_X8_wipe G_se_X8_wipe G_in_X8 G_cd_X8_wipe
theorem gv_L_107 : GoodIn G (wsV RL 107 RX8 yX8_spell (wW yX8_spell cX8_spell 5 (some .int))) := good_V G_ml_L_107 G_im_X8_spell G_se_X8_spell G_in_X8 G_cd_X8_spell
theorem gv_X8_230 : GoodIn G (wsV RX8 230 RX1 yX1_spelledLength (wW yX1_spelledLength cX1_spelledLength 2 (some .int))) := good_V G_ml_X8_230 G_im_X1_spelledLength G_se_X1_spelledLength G_in_X1 G_cd_X1_spelledLength
theorem gv_X1_70 : GoodIn G (wsV RX1 70 RX1 yX1_wholeDigits (wW yX1_wholeDigits cX1_wholeDigits 4 (some .int))) := good_V G_ml_X1_70 G_im_X1_wholeDigits G_se_X1_wholeDigits G_in_X1 G_cd_X1_wholeDigits
theorem gv_X1_83 : GoodIn G (wsV RX1 83 RX1 yX1_whole (wW yX1_whole cX1_whole 1 (some .int))) := good_V G_ml_X1_83 G_im_X1_whole G_se_X1_whole G_in_X1 G_cd_X1_whole
theorem gv_X8_233 : GoodIn G (wsV RX8 233 RX1 yX1_spelledByte (wW yX1_spelledByte cX1_spelledByte 4 (some .int))) := good_V G_ml_X8_233 G_im_X1_spelledByte G_se_X1_spelledByte G_in_X1 G_cd_X1_spelledByte
theorem gv_X1_74 : GoodIn G (wsV RX1 74 RX1 yX1_wholeDigit (wW yX1_wholeDigit cX1_wholeDigit 5 (some .int))) := good_V G_ml_X1_74 G_im_X1_wholeDigit G_se_X1_wholeDigit G_in_X1 G_cd_X1_wholeDigit
theorem gs_X1_77 : GoodIn G (va_wsS RX1 77 yX1_signOf (wW yX1_signOf cX1_signOf 1 (some .int))) := good_S G_ml_X1_77 G_st_X1_signOf G_in_X1 G_cd_X1_signOf
theorem gv_X1_80 : GoodIn G (wsV RX1 80 RX1 yX1_restAt (wW yX1_restAt cX1_restAt 5 (some .int))) := good_V G_ml_X1_80 G_im_X1_restAt G_se_X1_restAt G_in_X1 G_cd_X1_restAt
theorem gv_L_111 : GoodIn G (wsV RL 111 RX8 yX8_read (wW yX8_read cX8_read 3 (some .int))) := good_V G_ml_L_111 G_im_X8_read G_se_X8_read G_in_X8 G_cd_X8_read
theorem gv_X8_236 : GoodIn G (wsV RX8 236 RX3 yX3_parse (wW yX3_parse cX3_parse 5 (some .int))) := good_V G_ml_X8_236 G_im_X3_parse G_se_X3_parse G_in_X3 G_cd_X3_parse
theorem gv_X3_27 : GoodIn G (wsV RX3 27 RX7 yX7_takeDigits (wW yX7_takeDigits cX7_takeDigits 3 (some .int))) := good_V G_ml_X3_27 G_im_X7_takeDigits G_se_X7_takeDigits G_in_X7 G_cd_X7_takeDigits
theorem gv_X7_51 : GoodIn G (wsV RX7 51 RX7 yX7_digitOn (wW yX7_digitOn cX7_digitOn 3 (some .int))) := good_V G_ml_X7_51 G_im_X7_digitOn G_se_X7_digitOn G_in_X7 G_cd_X7_digitOn
theorem gv_X3_31 : GoodIn G (wsV RX3 31 RX7 yX7_takes (wW yX7_takes cX7_takes 2 (some .boolean))) := good_V G_ml_X3_31 G_im_X7_takes G_se_X7_takes G_in_X7 G_cd_X7_takes
theorem gv_X3_39 : GoodIn G (wsV RX3 39 RX3 yX3_takesPeriod (wW yX3_takesPeriod cX3_takesPeriod 6 (some .boolean))) := good_V G_ml_X3_39 G_im_X3_takesPeriod G_se_X3_takesPeriod G_in_X3 G_cd_X3_takesPeriod
theorem gv_X3_43 : GoodIn G (wsV RX3 43 RX7 yX7_isAtEnd (wW yX7_isAtEnd cX7_isAtEnd 1 (some .boolean))) := good_V G_ml_X3_43 G_im_X7_isAtEnd G_se_X7_isAtEnd G_in_X7 G_cd_X7_isAtEnd
theorem gv_L_115 : GoodIn G (wsV RL 115 RX8 yX8_run (wW yX8_run cX8_run 3 (some .int))) := good_V G_ml_L_115 G_im_X8_run G_se_X8_run G_in_X8 G_cd_X8_run
theorem gv_X8_244 : GoodIn G (wsV RX8 244 RX5 yX5_parse (wW yX5_parse cX5_parse 3 (some .int))) := good_V G_ml_X8_244 G_im_X5_parse G_se_X5_parse G_in_X5 G_cd_X5_parse
theorem gv_X5_31 : GoodIn G (wsV RX5 31 RX5 yX5_parseCommand (wW yX5_parseCommand cX5_parseCommand 5 (some .int))) := good_V G_ml_X5_31 G_im_X5_parseCommand G_se_X5_parseCommand G_in_X5 G_cd_X5_parseCommand
theorem gv_X5_43 : GoodIn G (wsV RX5 43 RX7 yX7_takeLetters (wW yX7_takeLetters cX7_takeLetters 1 none)) := good_V G_ml_X5_43 G_im_X7_takeLetters G_se_X7_takeLetters G_in_X7 G_cd_X7_takeLetters
theorem gs_X5_46 : GoodIn G (va_wsS RX5 46 yX5_wordBetween (wW yX5_wordBetween cX5_wordBetween 3 (some .int))) := good_S G_ml_X5_46 G_st_X5_wordBetween G_in_X5 G_cd_X5_wordBetween
theorem gs_X5_65 : GoodIn G (va_wsS RX5 65 yX5_wordText (wW yX5_wordText cX5_wordText 1 (some (.object "java/lang/String")))) := good_S G_ml_X5_65 G_st_X5_wordText G_in_X5 G_cd_X5_wordText
theorem gv_X5_69 : GoodIn G (wsV RX5 69 RX7 yX7_bears (wW yX7_bears cX7_bears 5 (some .boolean))) := good_V G_ml_X5_69 G_im_X7_bears G_se_X7_bears G_in_X7 G_cd_X7_bears
theorem gs_X5_54 : GoodIn G (va_wsS RX5 54 yX5_numbersOf (wW yX5_numbersOf cX5_numbersOf 1 (some .int))) := good_S G_ml_X5_54 G_st_X5_numbersOf G_in_X5 G_cd_X5_numbersOf
theorem gv_X5_39 : GoodIn G (wsV RX5 39 RX7 yX7_takes (wW yX7_takes cX7_takes 2 (some .boolean))) := good_V G_ml_X5_39 G_im_X7_takes G_se_X7_takes G_in_X7 G_cd_X7_takes
theorem gv_X5_62 : GoodIn G (wsV RX5 62 RX7 yX7_takeDigits (wW yX7_takeDigits cX7_takeDigits 3 (some .int))) := good_V G_ml_X5_62 G_im_X7_takeDigits G_se_X7_takeDigits G_in_X7 G_cd_X7_takeDigits
theorem gv_X5_35 : GoodIn G (wsV RX5 35 RX7 yX7_isAtEnd (wW yX7_isAtEnd cX7_isAtEnd 1 (some .boolean))) := good_V G_ml_X5_35 G_im_X7_isAtEnd G_se_X7_isAtEnd G_in_X7 G_cd_X7_isAtEnd
theorem gv_X8_250 : GoodIn G (wsV RX8 250 RX8 yX8_doCommand (wW yX8_doCommand cX8_doCommand 4 (some .int))) := good_V G_ml_X8_250 G_im_X8_doCommand G_se_X8_doCommand G_in_X8 G_cd_X8_doCommand
theorem gv_X8_295 : GoodIn G (wsV RX8 295 RX5 yX5_number (wW yX5_number cX5_number 3 (some .int))) := good_V G_ml_X8_295 G_im_X5_number G_se_X5_number G_in_X5 G_cd_X5_number
theorem gv_X8_298 : GoodIn G (wsV RX8 298 RX5 yX5_word (wW yX5_word cX5_word 2 (some .int))) := good_V G_ml_X8_298 G_im_X5_word G_se_X5_word G_in_X5 G_cd_X5_word
theorem gv_X8_301 : GoodIn G (wsV RX8 301 RX8 yX8_fraction (wW yX8_fraction cX8_fraction 4 (some .int))) := good_V G_ml_X8_301 G_im_X8_fraction G_se_X8_fraction G_in_X8 G_cd_X8_fraction
theorem gv_X8_303 : GoodIn G (wsV RX8 303 RX8 yX8_drop (wW yX8_drop cX8_drop 2 (some .int))) := good_V G_ml_X8_303 G_im_X8_drop G_se_X8_drop G_in_X8 G_cd_X8_drop
theorem gv_X8_306 : GoodIn G (wsV RX8 306 RX8 yX8_multiply (wW yX8_multiply cX8_multiply 5 (some .int))) := good_V G_ml_X8_306 G_im_X8_multiply G_se_X8_multiply G_in_X8 G_cd_X8_multiply
theorem gv_X8_309 : GoodIn G (wsV RX8 309 RX8 yX8_sum (wW yX8_sum cX8_sum 6 (some .int))) := good_V G_ml_X8_309 G_im_X8_sum G_se_X8_sum G_in_X8 G_cd_X8_sum
theorem gv_X8_312 : GoodIn G (wsV RX8 312 RX8 yX8_lowest (wW yX8_lowest cX8_lowest 5 (some .int))) := good_V G_ml_X8_312 G_im_X8_lowest G_se_X8_lowest G_in_X8 G_cd_X8_lowest
theorem gv_L_119 : GoodIn G (wsV RL 119 RX8 yX8_hold (wW yX8_hold cX8_hold 5 (some .int))) := good_V G_ml_L_119 G_im_X8_hold G_se_X8_hold G_in_X8 G_cd_X8_hold
theorem gv_X8_253 : GoodIn G (wsV RX8 253 RX8 yX8_holderAt (wW yX8_holderAt cX8_holderAt 2 (some (.object "TurningFractions$Holder")))) := good_V G_ml_X8_253 G_im_X8_holderAt G_se_X8_holderAt G_in_X8 G_cd_X8_holderAt
theorem gv_X8_257 : GoodIn G (wsV RX8 257 RX2 yX2_holdFraction (wW yX2_holdFraction cX2_holdFraction 2 none)) := good_V G_ml_X8_257 G_im_X2_holdFraction G_se_X2_holdFraction G_in_X2 G_cd_X2_holdFraction
theorem gv_X2_29 : GoodIn G (wsV RX2 29 RX1 yX1_becomeLike (wW yX1_becomeLike cX1_becomeLike 2 none)) := good_V G_ml_X2_29 G_im_X1_becomeLike G_se_X1_becomeLike G_in_X1 G_cd_X1_becomeLike
theorem gv_L_123 : GoodIn G (wsV RL 123 RX8 yX8_lose (wW yX8_lose cX8_lose 4 (some .int))) := good_V G_ml_L_123 G_im_X8_lose G_se_X8_lose G_in_X8 G_cd_X8_lose
theorem gv_L_127 : GoodIn G (wsV RL 127 RX8 yX8_taken (wW yX8_taken cX8_taken 7 (some .int))) := good_V G_ml_L_127 G_im_X8_taken G_se_X8_taken G_in_X8 G_cd_X8_taken
theorem gv_X8_263 : GoodIn G (wsV RX8 263 RX2 yX2_refusalAs (wW yX2_refusalAs cX2_refusalAs 2 (some .int))) := good_V G_ml_X8_263 G_im_X2_refusalAs G_se_X2_refusalAs G_in_X2 G_cd_X2_refusalAs
theorem gv_L_131 : GoodIn G (wsV RL 131 RX8 yX8_was (wW yX8_was cX8_was 5 (some .int))) := good_V G_ml_L_131 G_im_X8_was G_se_X8_was G_in_X8 G_cd_X8_was
theorem gv_L_135 : GoodIn G (wsV RL 135 RX8 yX8_row (wW yX8_row cX8_row 4 (some .int))) := good_V G_ml_L_135 G_im_X8_row G_se_X8_row G_in_X8 G_cd_X8_row
theorem gv_X8_269 : GoodIn G (wsV RX8 269 RX2 yX2_holdRow (wW yX2_holdRow cX2_holdRow 3 none)) := good_V G_ml_X8_269 G_im_X2_holdRow G_se_X2_holdRow G_in_X2 G_cd_X2_holdRow
theorem gv_L_139 : GoodIn G (wsV RL 139 RX8 yX8_put (wW yX8_put cX8_put 6 (some .int))) := good_V G_ml_L_139 G_im_X8_put G_se_X8_put G_in_X8 G_cd_X8_put
theorem gv_X8_272 : GoodIn G (wsV RX8 272 RX2 yX2_hasPlace (wW yX2_hasPlace cX2_hasPlace 2 (some .boolean))) := good_V G_ml_X8_272 G_im_X2_hasPlace G_se_X2_hasPlace G_in_X2 G_cd_X2_hasPlace
theorem gv_L_143 : GoodIn G (wsV RL 143 RX8 yX8_get (wW yX8_get cX8_get 4 (some .long))) := good_V G_ml_L_143 G_im_X8_get G_se_X8_get G_in_X8 G_cd_X8_get
theorem gv_L_148 : GoodIn G (wsV RL 148 RX8 yX8_judge (wW yX8_judge cX8_judge 6 (some .int))) := good_V G_ml_L_148 G_im_X8_judge G_se_X8_judge G_in_X8 G_cd_X8_judge
theorem gv_X8_278 : GoodIn G (wsV RX8 278 RX2 yX2_firstUnlike (wW yX2_firstUnlike cX2_firstUnlike 4 (some .int))) := good_V G_ml_X8_278 G_im_X2_firstUnlike G_se_X2_firstUnlike G_in_X2 G_cd_X2_firstUnlike
theorem gv_X2_41 : GoodIn G (wsV RX2 41 RX1 yX1_restAt (wW yX1_restAt cX1_restAt 5 (some .int))) := good_V G_ml_X2_41 G_im_X1_restAt G_se_X1_restAt G_in_X1 G_cd_X1_restAt
theorem gv_X2_49 : GoodIn G (wsV RX2 49 RX1 yX1_digitOf (wW yX1_digitOf cX1_digitOf 2 (some .int))) := good_V G_ml_X2_49 G_im_X1_digitOf G_se_X1_digitOf G_in_X1 G_cd_X1_digitOf
theorem gv_X2_52 : GoodIn G (wsV RX2 52 RX1 yX1_restAfter (wW yX1_restAfter cX1_restAfter 2 (some .int))) := good_V G_ml_X2_52 G_im_X1_restAfter G_se_X1_restAfter G_in_X1 G_cd_X1_restAfter
theorem gv_L_152 : GoodIn G (wsV RL 152 RX8 yX8_image (wW yX8_image cX8_image 1 (some .int))) := good_V G_ml_L_152 G_im_X8_image G_se_X8_image G_in_X8 G_cd_X8_image
theorem gv_X8_282 : GoodIn G (wsV RX8 282 RX6 yX6_becomeLike (wW yX6_becomeLike cX6_becomeLike 3 none)) := good_V G_ml_X8_282 G_im_X6_becomeLike G_se_X6_becomeLike G_in_X6 G_cd_X6_becomeLike
theorem gv_X8_286 : GoodIn G (wsV RX8 286 RX0 yX0_becomeLike (wW yX0_becomeLike cX0_becomeLike 3 none)) := good_V G_ml_X8_286 G_im_X0_becomeLike G_se_X0_becomeLike G_in_X0 G_cd_X0_becomeLike
theorem gv_L_156 : GoodIn G (wsV RL 156 RX8 yX8_undo (wW yX8_undo cX8_undo 1 (some .int))) := good_V G_ml_L_156 G_im_X8_undo G_se_X8_undo G_in_X8 G_cd_X8_undo
theorem gv_L_160 : GoodIn G (wsV RL 160 RX8 yX8_count (wW yX8_count cX8_count 2 (some .int))) := good_V G_ml_L_160 G_im_X8_count G_se_X8_count G_in_X8 G_cd_X8_count
theorem gv_L_17 : GoodIn G (wsV RL 17 RX9 yX9_fraction (wW yX9_fraction cX9_fraction 4 (some .int))) := good_V G_ml_L_17 G_im_X9_fraction G_se_X9_fraction G_in_X9 G_cd_X9_fraction
theorem gs_X9_92 : GoodIn G (va_wsS RX9 92 yX9_isIn (wW yX9_isIn cX9_isIn 6 (some .boolean))) := good_S G_ml_X9_92 G_st_X9_isIn G_in_X9 G_cd_X9_isIn
theorem gs_X9_118 : GoodIn G (va_wsS RX9 118 yX9_isBase (wW yX9_isBase cX9_isBase 1 (some .boolean))) := good_S G_ml_X9_118 G_st_X9_isBase G_in_X9 G_cd_X9_isBase
theorem gv_X9_122 : GoodIn G (wsV RX9 122 RX9 yX9_comes (wW yX9_comes cX9_comes 4 (some .int))) := good_V G_ml_X9_122 G_im_X9_comes G_se_X9_comes G_in_X9 G_cd_X9_comes
theorem gv_L_22 : GoodIn G (wsV RL 22 RX9 yX9_drop (wW yX9_drop cX9_drop 3 (some .int))) := good_V G_ml_L_22 G_im_X9_drop G_se_X9_drop G_in_X9 G_cd_X9_drop
theorem gv_X9_126 : GoodIn G (wsV RX9 126 RX9 yX9_isFraction (wW yX9_isFraction cX9_isFraction 2 (some .boolean))) := good_V G_ml_X9_126 G_im_X9_isFraction G_se_X9_isFraction G_in_X9 G_cd_X9_isFraction
theorem gv_L_27 : GoodIn G (wsV RL 27 RX9 yX9_multiply (wW yX9_multiply cX9_multiply 3 (some .int))) := good_V G_ml_L_27 G_im_X9_multiply G_se_X9_multiply G_in_X9 G_cd_X9_multiply
theorem gv_L_31 : GoodIn G (wsV RL 31 RX9 yX9_sum (wW yX9_sum cX9_sum 5 (some .int))) := good_V G_ml_L_31 G_im_X9_sum G_se_X9_sum G_in_X9 G_cd_X9_sum
theorem gv_X9_133 : GoodIn G (wsV RX9 133 RX9 yX9_comesLowest (wW yX9_comesLowest cX9_comesLowest 8 (some .int))) := good_V G_ml_X9_133 G_im_X9_comesLowest G_se_X9_comesLowest G_in_X9 G_cd_X9_comesLowest
theorem gs_X9_129 : GoodIn G (va_wsS RX9 129 yX9_divisor (wW yX9_divisor cX9_divisor 10 (some .long))) := good_S G_ml_X9_129 G_st_X9_divisor G_in_X9 G_cd_X9_divisor
theorem gv_L_35 : GoodIn G (wsV RL 35 RX9 yX9_lowest (wW yX9_lowest cX9_lowest 3 (some .int))) := good_V G_ml_L_35 G_im_X9_lowest G_se_X9_lowest G_in_X9 G_cd_X9_lowest
theorem gv_L_39 : GoodIn G (wsV RL 39 RX9 yX9_of (wW yX9_of cX9_of 3 (some .int))) := good_V G_ml_L_39 G_im_X9_of G_se_X9_of G_in_X9 G_cd_X9_of
theorem gv_X9_137 : GoodIn G (wsV RX9 137 RX9 yX9_looksAt (wW yX9_looksAt cX9_looksAt 2 none)) := good_V G_ml_X9_137 G_im_X9_looksAt G_se_X9_looksAt G_in_X9 G_cd_X9_looksAt
theorem gv_X9_110 : GoodIn G (wsV RX9 110 RX9 yX9_looks (wW yX9_looks cX9_looks 7 none)) := good_V G_ml_X9_110 G_im_X9_looks G_se_X9_looks G_in_X9 G_cd_X9_looks
theorem gv_X9_141 : GoodIn G (wsV RX9 141 RX9 yX9_kindNow (wW yX9_kindNow cX9_kindNow 1 (some .int))) := good_V G_ml_X9_141 G_im_X9_kindNow G_se_X9_kindNow G_in_X9 G_cd_X9_kindNow
theorem gv_L_43 : GoodIn G (wsV RL 43 RX9 yX9_digit (wW yX9_digit cX9_digit 3 (some .int))) := good_V G_ml_L_43 G_im_X9_digit G_se_X9_digit G_in_X9 G_cd_X9_digit
theorem gv_X9_145 : GoodIn G (wsV RX9 145 RX9 yX9_placeOf (wW yX9_placeOf cX9_placeOf 2 (some .int))) := good_V G_ml_X9_145 G_im_X9_placeOf G_se_X9_placeOf G_in_X9 G_cd_X9_placeOf
theorem gv_L_47 : GoodIn G (wsV RL 47 RX9 yX9_rest (wW yX9_rest cX9_rest 3 (some .int))) := good_V G_ml_L_47 G_im_X9_rest G_se_X9_rest G_in_X9 G_cd_X9_rest
theorem gv_L_51 : GoodIn G (wsV RL 51 RX9 yX9_place (wW yX9_place cX9_place 4 (some .int))) := good_V G_ml_L_51 G_im_X9_place G_se_X9_place G_in_X9 G_cd_X9_place
theorem gv_L_55 : GoodIn G (wsV RL 55 RX9 yX9_block (wW yX9_block cX9_block 4 (some .int))) := good_V G_ml_L_55 G_im_X9_block G_se_X9_block G_in_X9 G_cd_X9_block
theorem gv_X9_152 : GoodIn G (wsV RX9 152 RX9 yX9_isParted (wW yX9_isParted cX9_isParted 2 (some .boolean))) := good_V G_ml_X9_152 G_im_X9_isParted G_se_X9_isParted G_in_X9 G_cd_X9_isParted
theorem gv_X9_157 : GoodIn G (wsV RX9 157 RX9 yX9_blocks (wW yX9_blocks cX9_blocks 8 none)) := good_V G_ml_X9_157 G_im_X9_blocks G_se_X9_blocks G_in_X9 G_cd_X9_blocks
theorem gv_L_59 : GoodIn G (wsV RL 59 RX9 yX9_nines (wW yX9_nines cX9_nines 3 (some .int))) := good_V G_ml_L_59 G_im_X9_nines G_se_X9_nines G_in_X9 G_cd_X9_nines
theorem gv_X9_171 : GoodIn G (wsV RX9 171 RX9 yX9_ninesNow (wW yX9_ninesNow cX9_ninesNow 7 (some .int))) := good_V G_ml_X9_171 G_im_X9_ninesNow G_se_X9_ninesNow G_in_X9 G_cd_X9_ninesNow
theorem gv_X9_163 : GoodIn G (wsV RX9 163 RX9 yX9_smallNines (wW yX9_smallNines cX9_smallNines 8 (some .int))) := good_V G_ml_X9_163 G_im_X9_smallNines G_se_X9_smallNines G_in_X9 G_cd_X9_smallNines
theorem gv_X9_167 : GoodIn G (wsV RX9 167 RX9 yX9_greatNines (wW yX9_greatNines cX9_greatNines 8 (some .int))) := good_V G_ml_X9_167 G_im_X9_greatNines G_se_X9_greatNines G_in_X9 G_cd_X9_greatNines
theorem gv_L_63 : GoodIn G (wsV RL 63 RX9 yX9_shift (wW yX9_shift cX9_shift 3 (some .int))) := good_V G_ml_L_63 G_im_X9_shift G_se_X9_shift G_in_X9 G_cd_X9_shift
theorem gv_X9_177 : GoodIn G (wsV RX9 177 RX9 yX9_keepsRing (wW yX9_keepsRing cX9_keepsRing 3 none)) := good_V G_ml_X9_177 G_im_X9_keepsRing G_se_X9_keepsRing G_in_X9 G_cd_X9_keepsRing
theorem gv_X9_180 : GoodIn G (wsV RX9 180 RX9 yX9_shiftNow (wW yX9_shiftNow cX9_shiftNow 4 (some .int))) := good_V G_ml_X9_180 G_im_X9_shiftNow G_se_X9_shiftNow G_in_X9 G_cd_X9_shiftNow
theorem gv_L_67 : GoodIn G (wsV RL 67 RX9 yX9_multiple (wW yX9_multiple cX9_multiple 4 (some .int))) := good_V G_ml_L_67 G_im_X9_multiple G_se_X9_multiple G_in_X9 G_cd_X9_multiple
theorem gv_L_71 : GoodIn G (wsV RL 71 RX9 yX9_order (wW yX9_order cX9_order 5 (some .int))) := good_V G_ml_L_71 G_im_X9_order G_se_X9_order G_in_X9 G_cd_X9_order
theorem gv_L_75 : GoodIn G (wsV RL 75 RX9 yX9_cycles (wW yX9_cycles cX9_cycles 9 (some .int))) := good_V G_ml_L_75 G_im_X9_cycles G_se_X9_cycles G_in_X9 G_cd_X9_cycles
theorem gs_X9_183 : GoodIn G (va_wsS RX9 183 yJ9_max_7cf53 (wW yJ9_max_7cf53 cJ9_max_7cf53 2 (some .int))) := good_S G_ml_X9_183 G_st_J9_max_7cf53 G_in_J9 G_cd_J9_max_7cf53
theorem gv_L_80 : GoodIn G (wsV RL 80 RX9 yX9_full (wW yX9_full cX9_full 9 (some .int))) := good_V G_ml_L_80 G_im_X9_full G_se_X9_full G_in_X9 G_cd_X9_full
theorem gv_X9_188 : GoodIn G (wsV RX9 188 RX9 yX9_isFull (wW yX9_isFull cX9_isFull 3 (some .boolean))) := good_V G_ml_X9_188 G_im_X9_isFull G_se_X9_isFull G_in_X9 G_cd_X9_isFull
theorem gv_L_84 : GoodIn G (wsV RL 84 RX9 yX9_list (wW yX9_list cX9_list 4 (some .int))) := good_V G_ml_L_84 G_im_X9_list G_se_X9_list G_in_X9 G_cd_X9_list
theorem gv_L_93 : GoodIn G (wsV RL 93 RX9 yX9_listed (wW yX9_listed cX9_listed 2 (some .int))) := good_V G_ml_L_93 G_im_X9_listed G_se_X9_listed G_in_X9 G_cd_X9_listed
theorem gv_L_98 : GoodIn G (wsV RL 98 RX9 yX9_tells (wW yX9_tells cX9_tells 7 (some .long))) := good_V G_ml_L_98 G_im_X9_tells G_se_X9_tells G_in_X9 G_cd_X9_tells
theorem gs_X9_209 : GoodIn G (va_wsS RX9 209 yX9_worth (wW yX9_worth cX9_worth 4 (some .long))) := good_S G_ml_X9_209 G_st_X9_worth G_in_X9 G_cd_X9_worth
theorem gs_X9_200 : GoodIn G (va_wsS RX9 200 yJ9_min_f86c9 (wW yJ9_min_f86c9 cJ9_min_f86c9 4 (some .long))) := good_S G_ml_X9_200 G_st_J9_min_f86c9 G_in_J9 G_cd_J9_min_f86c9
theorem gv_L_102 : GoodIn G (wsV RL 102 RX9 yX9_feed (wW yX9_feed cX9_feed 4 (some .int))) := good_V G_ml_L_102 G_im_X9_feed G_se_X9_feed G_in_X9 G_cd_X9_feed
theorem gv_L_106 : GoodIn G (wsV RL 106 RX9 yX9_wipe (wW yX9_wipe cX9_wipe 2 (some .int))) := good_V G_ml_L_106 G_im_X9_wipe G_se_X9_wipe G_in_X9 G_cd_X9_wipe
theorem gv_L_89 : GoodIn G (wsV RL 89 RX9 yX9_thin (wW yX9_thin cX9_thin 5 (some .int))) := good_V G_ml_L_89 G_im_X9_thin G_se_X9_thin G_in_X9 G_cd_X9_thin
theorem gv_X9_224 : GoodIn G (wsV RX9 224 RX9 yX9_wordOf (wW yX9_wordOf cX9_wordOf 7 (some .int))) := good_V G_ml_X9_224 G_im_X9_wordOf G_se_X9_wordOf G_in_X9 G_cd_X9_wordOf
theorem gv_X9_227 : GoodIn G (wsV RX9 227 RX9 yX9_isSo (wW yX9_isSo cX9_isSo 3 (some .boolean))) := good_V G_ml_X9_227 G_im_X9_isSo G_se_X9_isSo G_in_X9 G_cd_X9_isSo
theorem gs_X9_197 : GoodIn G (va_wsS RX9 197 yX9_isPrime (wW yX9_isPrime cX9_isPrime 2 (some .boolean))) := good_S G_ml_X9_197 G_st_X9_isPrime G_in_X9 G_cd_X9_isPrime
theorem gv_L_110 : GoodIn G (wsV RL 110 RX9 yX9_spell (wW yX9_spell cX9_spell 7 (some .int))) := good_V G_ml_L_110 G_im_X9_spell G_se_X9_spell G_in_X9 G_cd_X9_spell
theorem gv_X9_230 : GoodIn G (wsV RX9 230 RX9 yX9_wholeSize (wW yX9_wholeSize cX9_wholeSize 4 (some .int))) := good_V G_ml_X9_230 G_im_X9_wholeSize G_se_X9_wholeSize G_in_X9 G_cd_X9_wholeSize
theorem gv_X9_233 : GoodIn G (wsV RX9 233 RX9 yX9_wholeDigit (wW yX9_wholeDigit cX9_wholeDigit 5 (some .int))) := good_V G_ml_X9_233 G_im_X9_wholeDigit G_se_X9_wholeDigit G_in_X9 G_cd_X9_wholeDigit
theorem gs_X9_236 : GoodIn G (va_wsS RX9 236 yX9_signOf (wW yX9_signOf cX9_signOf 1 (some .int))) := good_S G_ml_X9_236 G_st_X9_signOf G_in_X9 G_cd_X9_signOf
theorem gv_L_114 : GoodIn G (wsV RL 114 RX9 yX9_read (wW yX9_read cX9_read 2 (some .int))) := good_V G_ml_L_114 G_im_X9_read G_se_X9_read G_in_X9 G_cd_X9_read
theorem gv_X9_264 : GoodIn G (wsV RX9 264 RX9 yX9_isNumeral (wW yX9_isNumeral cX9_isNumeral 3 (some .boolean))) := good_V G_ml_X9_264 G_im_X9_isNumeral G_se_X9_isNumeral G_in_X9 G_cd_X9_isNumeral
theorem gv_X9_255 : GoodIn G (wsV RX9 255 RX9 yX9_readsDigits (wW yX9_readsDigits cX9_readsDigits 2 none)) := good_V G_ml_X9_255 G_im_X9_readsDigits G_se_X9_readsDigits G_in_X9 G_cd_X9_readsDigits
theorem gv_X9_252 : GoodIn G (wsV RX9 252 RX9 yX9_digitAt (wW yX9_digitAt cX9_digitAt 1 (some .int))) := good_V G_ml_X9_252 G_im_X9_digitAt G_se_X9_digitAt G_in_X9 G_cd_X9_digitAt
theorem gv_X9_239 : GoodIn G (wsV RX9 239 RX9 yX9_isAt (wW yX9_isAt cX9_isAt 3 (some .boolean))) := good_V G_ml_X9_239 G_im_X9_isAt G_se_X9_isAt G_in_X9 G_cd_X9_isAt
theorem gv_L_118 : GoodIn G (wsV RL 118 RX9 yX9_run (wW yX9_run cX9_run 4 (some .int))) := good_V G_ml_L_118 G_im_X9_run G_se_X9_run G_in_X9 G_cd_X9_run
theorem gv_X9_288 : GoodIn G (wsV RX9 288 RX9 yX9_command (wW yX9_command cX9_command 5 (some .int))) := good_V G_ml_X9_288 G_im_X9_command G_se_X9_command G_in_X9 G_cd_X9_command
theorem gv_X9_267 : GoodIn G (wsV RX9 267 RX9 yX9_commandOf (wW yX9_commandOf cX9_commandOf 7 (some .int))) := good_V G_ml_X9_267 G_im_X9_commandOf G_se_X9_commandOf G_in_X9 G_cd_X9_commandOf
theorem gs_X9_270 : GoodIn G (va_wsS RX9 270 yX9_numbersOf (wW yX9_numbersOf cX9_numbersOf 1 (some .int))) := good_S G_ml_X9_270 G_st_X9_numbersOf G_in_X9 G_cd_X9_numbersOf
theorem gv_X9_291 : GoodIn G (wsV RX9 291 RX9 yX9_done (wW yX9_done cX9_done 2 (some .int))) := good_V G_ml_X9_291 G_im_X9_done G_se_X9_done G_in_X9 G_cd_X9_done
theorem gv_X9_273 : GoodIn G (wsV RX9 273 RX9 yX9_fraction (wW yX9_fraction cX9_fraction 4 (some .int))) := good_V G_ml_X9_273 G_im_X9_fraction G_se_X9_fraction G_in_X9 G_cd_X9_fraction
theorem gv_X9_276 : GoodIn G (wsV RX9 276 RX9 yX9_drop (wW yX9_drop cX9_drop 3 (some .int))) := good_V G_ml_X9_276 G_im_X9_drop G_se_X9_drop G_in_X9 G_cd_X9_drop
theorem gv_X9_279 : GoodIn G (wsV RX9 279 RX9 yX9_multiply (wW yX9_multiply cX9_multiply 3 (some .int))) := good_V G_ml_X9_279 G_im_X9_multiply G_se_X9_multiply G_in_X9 G_cd_X9_multiply
theorem gv_X9_282 : GoodIn G (wsV RX9 282 RX9 yX9_sum (wW yX9_sum cX9_sum 5 (some .int))) := good_V G_ml_X9_282 G_im_X9_sum G_se_X9_sum G_in_X9 G_cd_X9_sum
theorem gv_X9_285 : GoodIn G (wsV RX9 285 RX9 yX9_lowest (wW yX9_lowest cX9_lowest 3 (some .int))) := good_V G_ml_X9_285 G_im_X9_lowest G_se_X9_lowest G_in_X9 G_cd_X9_lowest
theorem gv_L_122 : GoodIn G (wsV RL 122 RX9 yX9_hold (wW yX9_hold cX9_hold 3 (some .int))) := good_V G_ml_L_122 G_im_X9_hold G_se_X9_hold G_in_X9 G_cd_X9_hold
theorem gs_X9_294 : GoodIn G (va_wsS RX9 294 yX9_isHolder (wW yX9_isHolder cX9_isHolder 1 (some .boolean))) := good_S G_ml_X9_294 G_st_X9_isHolder G_in_X9 G_cd_X9_isHolder
theorem gv_X9_297 : GoodIn G (wsV RX9 297 RX9 yX9_looksHeld (wW yX9_looksHeld cX9_looksHeld 2 none)) := good_V G_ml_X9_297 G_im_X9_looksHeld G_se_X9_looksHeld G_in_X9 G_cd_X9_looksHeld
theorem gv_L_126 : GoodIn G (wsV RL 126 RX9 yX9_lose (wW yX9_lose cX9_lose 3 (some .int))) := good_V G_ml_L_126 G_im_X9_lose G_se_X9_lose G_in_X9 G_cd_X9_lose
theorem gv_L_130 : GoodIn G (wsV RL 130 RX9 yX9_taken (wW yX9_taken cX9_taken 4 (some .int))) := good_V G_ml_L_130 G_im_X9_taken G_se_X9_taken G_in_X9 G_cd_X9_taken
theorem gv_X9_302 : GoodIn G (wsV RX9 302 RX9 yX9_whyNot (wW yX9_whyNot cX9_whyNot 3 (some .int))) := good_V G_ml_X9_302 G_im_X9_whyNot G_se_X9_whyNot G_in_X9 G_cd_X9_whyNot
theorem gv_L_134 : GoodIn G (wsV RL 134 RX9 yX9_was (wW yX9_was cX9_was 4 (some .int))) := good_V G_ml_L_134 G_im_X9_was G_se_X9_was G_in_X9 G_cd_X9_was
theorem gv_L_138 : GoodIn G (wsV RL 138 RX9 yX9_row (wW yX9_row cX9_row 4 (some .int))) := good_V G_ml_L_138 G_im_X9_row G_se_X9_row G_in_X9 G_cd_X9_row
theorem gv_L_142 : GoodIn G (wsV RL 142 RX9 yX9_put (wW yX9_put cX9_put 5 (some .int))) := good_V G_ml_L_142 G_im_X9_put G_se_X9_put G_in_X9 G_cd_X9_put
theorem gv_L_147 : GoodIn G (wsV RL 147 RX9 yX9_get (wW yX9_get cX9_get 3 (some .long))) := good_V G_ml_L_147 G_im_X9_get G_se_X9_get G_in_X9 G_cd_X9_get
theorem gv_L_151 : GoodIn G (wsV RL 151 RX9 yX9_judge (wW yX9_judge cX9_judge 5 (some .int))) := good_V G_ml_L_151 G_im_X9_judge G_se_X9_judge G_in_X9 G_cd_X9_judge
theorem gv_L_155 : GoodIn G (wsV RL 155 RX9 yX9_image (wW yX9_image cX9_image 2 (some .int))) := good_V G_ml_L_155 G_im_X9_image G_se_X9_image G_in_X9 G_cd_X9_image
theorem gv_L_159 : GoodIn G (wsV RL 159 RX9 yX9_undo (wW yX9_undo cX9_undo 2 (some .int))) := good_V G_ml_L_159 G_im_X9_undo G_se_X9_undo G_in_X9 G_cd_X9_undo
theorem gv_L_163 : GoodIn G (wsV RL 163 RX9 yX9_count (wW yX9_count cX9_count 2 (some .int))) := good_V G_ml_L_163 G_im_X9_count G_se_X9_count G_in_X9 G_cd_X9_count
theorem hd_X0_init : yX0_init.cls ≠ "java/lang/invoke/MethodHandle" ∧ yX0_init.cls ≠ "java/lang/invoke/VarHandle" ∧ (parseMethodDescriptor yX0_init.desc).map (fun d => d.parameters.length) = some 0 := by decide +kernel
theorem hv_X0_init : yX0_init.cls = RX0 ∧ yX0_init.cls ≠ "java/lang/invoke/MethodHandle" ∧ yX0_init.cls ≠ "java/lang/invoke/VarHandle" ∧ (parseMethodDescriptor yX0_init.desc).map (fun d => d.parameters.length) = some 0 := ⟨rfl, hd_X0_init⟩
theorem hd_X0_fillTo : yX0_fillTo.cls ≠ "java/lang/invoke/MethodHandle" ∧ yX0_fillTo.cls ≠ "java/lang/invoke/VarHandle" ∧ (parseMethodDescriptor yX0_fillTo.desc).map (fun d => d.parameters.length) = some 2 := by decide +kernel
theorem hv_X0_fillTo : yX0_fillTo.cls = RX0 ∧ yX0_fillTo.cls ≠ "java/lang/invoke/MethodHandle" ∧ yX0_fillTo.cls ≠ "java/lang/invoke/VarHandle" ∧ (parseMethodDescriptor yX0_fillTo.desc).map (fun d => d.parameters.length) = some 2 := ⟨rfl, hd_X0_fillTo⟩
theorem hd_X0_becomeLike : yX0_becomeLike.cls ≠ "java/lang/invoke/MethodHandle" ∧ yX0_becomeLike.cls ≠ "java/lang/invoke/VarHandle" ∧ (parseMethodDescriptor yX0_becomeLike.desc).map (fun d => d.parameters.length) = some 1 := by decide +kernel
theorem hv_X0_becomeLike : yX0_becomeLike.cls = RX0 ∧ yX0_becomeLike.cls ≠ "java/lang/invoke/MethodHandle" ∧ yX0_becomeLike.cls ≠ "java/lang/invoke/VarHandle" ∧ (parseMethodDescriptor yX0_becomeLike.desc).map (fun d => d.parameters.length) = some 1 := ⟨rfl, hd_X0_becomeLike⟩
theorem hd_X0_wordOn : yX0_wordOn.cls ≠ "java/lang/invoke/MethodHandle" ∧ yX0_wordOn.cls ≠ "java/lang/invoke/VarHandle" ∧ (parseMethodDescriptor yX0_wordOn.desc).map (fun d => d.parameters.length) = some 2 := by decide +kernel
theorem hd_X0_wordText : yX0_wordText.cls ≠ "java/lang/invoke/MethodHandle" ∧ yX0_wordText.cls ≠ "java/lang/invoke/VarHandle" ∧ (parseMethodDescriptor yX0_wordText.desc).map (fun d => d.parameters.length) = some 1 := by decide +kernel
theorem hd_X0_keepOnly : yX0_keepOnly.cls ≠ "java/lang/invoke/MethodHandle" ∧ yX0_keepOnly.cls ≠ "java/lang/invoke/VarHandle" ∧ (parseMethodDescriptor yX0_keepOnly.desc).map (fun d => d.parameters.length) = some 2 := by decide +kernel
theorem hv_X0_keepOnly : yX0_keepOnly.cls = RX0 ∧ yX0_keepOnly.cls ≠ "java/lang/invoke/MethodHandle" ∧ yX0_keepOnly.cls ≠ "java/lang/invoke/VarHandle" ∧ (parseMethodDescriptor yX0_keepOnly.desc).map (fun d => d.parameters.length) = some 2 := ⟨rfl, hd_X0_keepOnly⟩
theorem hd_X0_isSo : yX0_isSo.cls ≠ "java/lang/invoke/MethodHandle" ∧ yX0_isSo.cls ≠ "java/lang/invoke/VarHandle" ∧ (parseMethodDescriptor yX0_isSo.desc).map (fun d => d.parameters.length) = some 2 := by decide +kernel
theorem hv_X0_isSo : yX0_isSo.cls = RX0 ∧ yX0_isSo.cls ≠ "java/lang/invoke/MethodHandle" ∧ yX0_isSo.cls ≠ "java/lang/invoke/VarHandle" ∧ (parseMethodDescriptor yX0_isSo.desc).map (fun d => d.parameters.length) = some 2 := ⟨rfl, hd_X0_isSo⟩
theorem hd_X1_init : yX1_init.cls ≠ "java/lang/invoke/MethodHandle" ∧ yX1_init.cls ≠ "java/lang/invoke/VarHandle" ∧ (parseMethodDescriptor yX1_init.desc).map (fun d => d.parameters.length) = some 0 := by decide +kernel
theorem hv_X1_init : yX1_init.cls = RX1 ∧ yX1_init.cls ≠ "java/lang/invoke/MethodHandle" ∧ yX1_init.cls ≠ "java/lang/invoke/VarHandle" ∧ (parseMethodDescriptor yX1_init.desc).map (fun d => d.parameters.length) = some 0 := ⟨rfl, hd_X1_init⟩
theorem hd_X1_become : yX1_become.cls ≠ "java/lang/invoke/MethodHandle" ∧ yX1_become.cls ≠ "java/lang/invoke/VarHandle" ∧ (parseMethodDescriptor yX1_become.desc).map (fun d => d.parameters.length) = some 3 := by decide +kernel
theorem hv_X1_become : yX1_become.cls = RX1 ∧ yX1_become.cls ≠ "java/lang/invoke/MethodHandle" ∧ yX1_become.cls ≠ "java/lang/invoke/VarHandle" ∧ (parseMethodDescriptor yX1_become.desc).map (fun d => d.parameters.length) = some 3 := ⟨rfl, hd_X1_become⟩
theorem hd_X1_becomeLike : yX1_becomeLike.cls ≠ "java/lang/invoke/MethodHandle" ∧ yX1_becomeLike.cls ≠ "java/lang/invoke/VarHandle" ∧ (parseMethodDescriptor yX1_becomeLike.desc).map (fun d => d.parameters.length) = some 1 := by decide +kernel
theorem hv_X1_becomeLike : yX1_becomeLike.cls = RX1 ∧ yX1_becomeLike.cls ≠ "java/lang/invoke/MethodHandle" ∧ yX1_becomeLike.cls ≠ "java/lang/invoke/VarHandle" ∧ (parseMethodDescriptor yX1_becomeLike.desc).map (fun d => d.parameters.length) = some 1 := ⟨rfl, hd_X1_becomeLike⟩
theorem hd_X1_turns : yX1_turns.cls ≠ "java/lang/invoke/MethodHandle" ∧ yX1_turns.cls ≠ "java/lang/invoke/VarHandle" ∧ (parseMethodDescriptor yX1_turns.desc).map (fun d => d.parameters.length) = some 1 := by decide +kernel
theorem hv_X1_turns : yX1_turns.cls = RX1 ∧ yX1_turns.cls ≠ "java/lang/invoke/MethodHandle" ∧ yX1_turns.cls ≠ "java/lang/invoke/VarHandle" ∧ (parseMethodDescriptor yX1_turns.desc).map (fun d => d.parameters.length) = some 1 := ⟨rfl, hd_X1_turns⟩
theorem hd_X1_restAfter : yX1_restAfter.cls ≠ "java/lang/invoke/MethodHandle" ∧ yX1_restAfter.cls ≠ "java/lang/invoke/VarHandle" ∧ (parseMethodDescriptor yX1_restAfter.desc).map (fun d => d.parameters.length) = some 1 := by decide +kernel
theorem hv_X1_restAfter : yX1_restAfter.cls = RX1 ∧ yX1_restAfter.cls ≠ "java/lang/invoke/MethodHandle" ∧ yX1_restAfter.cls ≠ "java/lang/invoke/VarHandle" ∧ (parseMethodDescriptor yX1_restAfter.desc).map (fun d => d.parameters.length) = some 1 := ⟨rfl, hd_X1_restAfter⟩
theorem hd_X1_digitOf : yX1_digitOf.cls ≠ "java/lang/invoke/MethodHandle" ∧ yX1_digitOf.cls ≠ "java/lang/invoke/VarHandle" ∧ (parseMethodDescriptor yX1_digitOf.desc).map (fun d => d.parameters.length) = some 1 := by decide +kernel
theorem hv_X1_digitOf : yX1_digitOf.cls = RX1 ∧ yX1_digitOf.cls ≠ "java/lang/invoke/MethodHandle" ∧ yX1_digitOf.cls ≠ "java/lang/invoke/VarHandle" ∧ (parseMethodDescriptor yX1_digitOf.desc).map (fun d => d.parameters.length) = some 1 := ⟨rfl, hd_X1_digitOf⟩
theorem hd_X1_restAt : yX1_restAt.cls ≠ "java/lang/invoke/MethodHandle" ∧ yX1_restAt.cls ≠ "java/lang/invoke/VarHandle" ∧ (parseMethodDescriptor yX1_restAt.desc).map (fun d => d.parameters.length) = some 1 := by decide +kernel
theorem hv_X1_restAt : yX1_restAt.cls = RX1 ∧ yX1_restAt.cls ≠ "java/lang/invoke/MethodHandle" ∧ yX1_restAt.cls ≠ "java/lang/invoke/VarHandle" ∧ (parseMethodDescriptor yX1_restAt.desc).map (fun d => d.parameters.length) = some 1 := ⟨rfl, hd_X1_restAt⟩
theorem hd_X1_whole : yX1_whole.cls ≠ "java/lang/invoke/MethodHandle" ∧ yX1_whole.cls ≠ "java/lang/invoke/VarHandle" ∧ (parseMethodDescriptor yX1_whole.desc).map (fun d => d.parameters.length) = some 0 := by decide +kernel
theorem hv_X1_whole : yX1_whole.cls = RX1 ∧ yX1_whole.cls ≠ "java/lang/invoke/MethodHandle" ∧ yX1_whole.cls ≠ "java/lang/invoke/VarHandle" ∧ (parseMethodDescriptor yX1_whole.desc).map (fun d => d.parameters.length) = some 0 := ⟨rfl, hd_X1_whole⟩
theorem hd_X1_ends : yX1_ends.cls ≠ "java/lang/invoke/MethodHandle" ∧ yX1_ends.cls ≠ "java/lang/invoke/VarHandle" ∧ (parseMethodDescriptor yX1_ends.desc).map (fun d => d.parameters.length) = some 0 := by decide +kernel
theorem hv_X1_ends : yX1_ends.cls = RX1 ∧ yX1_ends.cls ≠ "java/lang/invoke/MethodHandle" ∧ yX1_ends.cls ≠ "java/lang/invoke/VarHandle" ∧ (parseMethodDescriptor yX1_ends.desc).map (fun d => d.parameters.length) = some 0 := ⟨rfl, hd_X1_ends⟩
theorem hd_X1_kind : yX1_kind.cls ≠ "java/lang/invoke/MethodHandle" ∧ yX1_kind.cls ≠ "java/lang/invoke/VarHandle" ∧ (parseMethodDescriptor yX1_kind.desc).map (fun d => d.parameters.length) = some 0 := by decide +kernel
theorem hv_X1_kind : yX1_kind.cls = RX1 ∧ yX1_kind.cls ≠ "java/lang/invoke/MethodHandle" ∧ yX1_kind.cls ≠ "java/lang/invoke/VarHandle" ∧ (parseMethodDescriptor yX1_kind.desc).map (fun d => d.parameters.length) = some 0 := ⟨rfl, hd_X1_kind⟩
theorem hd_X1_isFullUnit : yX1_isFullUnit.cls ≠ "java/lang/invoke/MethodHandle" ∧ yX1_isFullUnit.cls ≠ "java/lang/invoke/VarHandle" ∧ (parseMethodDescriptor yX1_isFullUnit.desc).map (fun d => d.parameters.length) = some 0 := by decide +kernel
theorem hv_X1_isFullUnit : yX1_isFullUnit.cls = RX1 ∧ yX1_isFullUnit.cls ≠ "java/lang/invoke/MethodHandle" ∧ yX1_isFullUnit.cls ≠ "java/lang/invoke/VarHandle" ∧ (parseMethodDescriptor yX1_isFullUnit.desc).map (fun d => d.parameters.length) = some 0 := ⟨rfl, hd_X1_isFullUnit⟩
theorem hd_X1_placeOfDigit : yX1_placeOfDigit.cls ≠ "java/lang/invoke/MethodHandle" ∧ yX1_placeOfDigit.cls ≠ "java/lang/invoke/VarHandle" ∧ (parseMethodDescriptor yX1_placeOfDigit.desc).map (fun d => d.parameters.length) = some 1 := by decide +kernel
theorem hv_X1_placeOfDigit : yX1_placeOfDigit.cls = RX1 ∧ yX1_placeOfDigit.cls ≠ "java/lang/invoke/MethodHandle" ∧ yX1_placeOfDigit.cls ≠ "java/lang/invoke/VarHandle" ∧ (parseMethodDescriptor yX1_placeOfDigit.desc).map (fun d => d.parameters.length) = some 1 := ⟨rfl, hd_X1_placeOfDigit⟩
theorem hd_X1_partsInto : yX1_partsInto.cls ≠ "java/lang/invoke/MethodHandle" ∧ yX1_partsInto.cls ≠ "java/lang/invoke/VarHandle" ∧ (parseMethodDescriptor yX1_partsInto.desc).map (fun d => d.parameters.length) = some 1 := by decide +kernel
theorem hv_X1_partsInto : yX1_partsInto.cls = RX1 ∧ yX1_partsInto.cls ≠ "java/lang/invoke/MethodHandle" ∧ yX1_partsInto.cls ≠ "java/lang/invoke/VarHandle" ∧ (parseMethodDescriptor yX1_partsInto.desc).map (fun d => d.parameters.length) = some 1 := ⟨rfl, hd_X1_partsInto⟩
theorem hd_X1_blockWidth : yX1_blockWidth.cls ≠ "java/lang/invoke/MethodHandle" ∧ yX1_blockWidth.cls ≠ "java/lang/invoke/VarHandle" ∧ (parseMethodDescriptor yX1_blockWidth.desc).map (fun d => d.parameters.length) = some 1 := by decide +kernel
theorem hv_X1_blockWidth : yX1_blockWidth.cls = RX1 ∧ yX1_blockWidth.cls ≠ "java/lang/invoke/MethodHandle" ∧ yX1_blockWidth.cls ≠ "java/lang/invoke/VarHandle" ∧ (parseMethodDescriptor yX1_blockWidth.desc).map (fun d => d.parameters.length) = some 1 := ⟨rfl, hd_X1_blockWidth⟩
theorem hd_X1_ninesOfBlocks : yX1_ninesOfBlocks.cls ≠ "java/lang/invoke/MethodHandle" ∧ yX1_ninesOfBlocks.cls ≠ "java/lang/invoke/VarHandle" ∧ (parseMethodDescriptor yX1_ninesOfBlocks.desc).map (fun d => d.parameters.length) = some 1 := by decide +kernel
theorem hv_X1_ninesOfBlocks : yX1_ninesOfBlocks.cls = RX1 ∧ yX1_ninesOfBlocks.cls ≠ "java/lang/invoke/MethodHandle" ∧ yX1_ninesOfBlocks.cls ≠ "java/lang/invoke/VarHandle" ∧ (parseMethodDescriptor yX1_ninesOfBlocks.desc).map (fun d => d.parameters.length) = some 1 := ⟨rfl, hd_X1_ninesOfBlocks⟩
theorem hd_X1_turningRestTimes : yX1_turningRestTimes.cls ≠ "java/lang/invoke/MethodHandle" ∧ yX1_turningRestTimes.cls ≠ "java/lang/invoke/VarHandle" ∧ (parseMethodDescriptor yX1_turningRestTimes.desc).map (fun d => d.parameters.length) = some 1 := by decide +kernel
theorem hv_X1_turningRestTimes : yX1_turningRestTimes.cls = RX1 ∧ yX1_turningRestTimes.cls ≠ "java/lang/invoke/MethodHandle" ∧ yX1_turningRestTimes.cls ≠ "java/lang/invoke/VarHandle" ∧ (parseMethodDescriptor yX1_turningRestTimes.desc).map (fun d => d.parameters.length) = some 1 := ⟨rfl, hd_X1_turningRestTimes⟩
theorem hd_X1_placeInPeriod : yX1_placeInPeriod.cls ≠ "java/lang/invoke/MethodHandle" ∧ yX1_placeInPeriod.cls ≠ "java/lang/invoke/VarHandle" ∧ (parseMethodDescriptor yX1_placeInPeriod.desc).map (fun d => d.parameters.length) = some 1 := by decide +kernel
theorem hv_X1_placeInPeriod : yX1_placeInPeriod.cls = RX1 ∧ yX1_placeInPeriod.cls ≠ "java/lang/invoke/MethodHandle" ∧ yX1_placeInPeriod.cls ≠ "java/lang/invoke/VarHandle" ∧ (parseMethodDescriptor yX1_placeInPeriod.desc).map (fun d => d.parameters.length) = some 1 := ⟨rfl, hd_X1_placeInPeriod⟩
theorem hd_X1_spelledLength : yX1_spelledLength.cls ≠ "java/lang/invoke/MethodHandle" ∧ yX1_spelledLength.cls ≠ "java/lang/invoke/VarHandle" ∧ (parseMethodDescriptor yX1_spelledLength.desc).map (fun d => d.parameters.length) = some 0 := by decide +kernel
theorem hv_X1_spelledLength : yX1_spelledLength.cls = RX1 ∧ yX1_spelledLength.cls ≠ "java/lang/invoke/MethodHandle" ∧ yX1_spelledLength.cls ≠ "java/lang/invoke/VarHandle" ∧ (parseMethodDescriptor yX1_spelledLength.desc).map (fun d => d.parameters.length) = some 0 := ⟨rfl, hd_X1_spelledLength⟩
theorem hd_X1_spelledByte : yX1_spelledByte.cls ≠ "java/lang/invoke/MethodHandle" ∧ yX1_spelledByte.cls ≠ "java/lang/invoke/VarHandle" ∧ (parseMethodDescriptor yX1_spelledByte.desc).map (fun d => d.parameters.length) = some 1 := by decide +kernel
theorem hv_X1_spelledByte : yX1_spelledByte.cls = RX1 ∧ yX1_spelledByte.cls ≠ "java/lang/invoke/MethodHandle" ∧ yX1_spelledByte.cls ≠ "java/lang/invoke/VarHandle" ∧ (parseMethodDescriptor yX1_spelledByte.desc).map (fun d => d.parameters.length) = some 1 := ⟨rfl, hd_X1_spelledByte⟩
theorem hd_X1_wholeDigits : yX1_wholeDigits.cls ≠ "java/lang/invoke/MethodHandle" ∧ yX1_wholeDigits.cls ≠ "java/lang/invoke/VarHandle" ∧ (parseMethodDescriptor yX1_wholeDigits.desc).map (fun d => d.parameters.length) = some 0 := by decide +kernel
theorem hv_X1_wholeDigits : yX1_wholeDigits.cls = RX1 ∧ yX1_wholeDigits.cls ≠ "java/lang/invoke/MethodHandle" ∧ yX1_wholeDigits.cls ≠ "java/lang/invoke/VarHandle" ∧ (parseMethodDescriptor yX1_wholeDigits.desc).map (fun d => d.parameters.length) = some 0 := ⟨rfl, hd_X1_wholeDigits⟩
theorem hd_X1_wholeDigit : yX1_wholeDigit.cls ≠ "java/lang/invoke/MethodHandle" ∧ yX1_wholeDigit.cls ≠ "java/lang/invoke/VarHandle" ∧ (parseMethodDescriptor yX1_wholeDigit.desc).map (fun d => d.parameters.length) = some 1 := by decide +kernel
theorem hv_X1_wholeDigit : yX1_wholeDigit.cls = RX1 ∧ yX1_wholeDigit.cls ≠ "java/lang/invoke/MethodHandle" ∧ yX1_wholeDigit.cls ≠ "java/lang/invoke/VarHandle" ∧ (parseMethodDescriptor yX1_wholeDigit.desc).map (fun d => d.parameters.length) = some 1 := ⟨rfl, hd_X1_wholeDigit⟩
theorem hd_X1_signOf : yX1_signOf.cls ≠ "java/lang/invoke/MethodHandle" ∧ yX1_signOf.cls ≠ "java/lang/invoke/VarHandle" ∧ (parseMethodDescriptor yX1_signOf.desc).map (fun d => d.parameters.length) = some 1 := by decide +kernel
theorem hd_X2_init : yX2_init.cls ≠ "java/lang/invoke/MethodHandle" ∧ yX2_init.cls ≠ "java/lang/invoke/VarHandle" ∧ (parseMethodDescriptor yX2_init.desc).map (fun d => d.parameters.length) = some 0 := by decide +kernel
theorem hv_X2_init : yX2_init.cls = RX2 ∧ yX2_init.cls ≠ "java/lang/invoke/MethodHandle" ∧ yX2_init.cls ≠ "java/lang/invoke/VarHandle" ∧ (parseMethodDescriptor yX2_init.desc).map (fun d => d.parameters.length) = some 0 := ⟨rfl, hd_X2_init⟩
theorem hd_X2_holdFraction : yX2_holdFraction.cls ≠ "java/lang/invoke/MethodHandle" ∧ yX2_holdFraction.cls ≠ "java/lang/invoke/VarHandle" ∧ (parseMethodDescriptor yX2_holdFraction.desc).map (fun d => d.parameters.length) = some 1 := by decide +kernel
theorem hv_X2_holdFraction : yX2_holdFraction.cls = RX2 ∧ yX2_holdFraction.cls ≠ "java/lang/invoke/MethodHandle" ∧ yX2_holdFraction.cls ≠ "java/lang/invoke/VarHandle" ∧ (parseMethodDescriptor yX2_holdFraction.desc).map (fun d => d.parameters.length) = some 1 := ⟨rfl, hd_X2_holdFraction⟩
theorem hd_X2_holdRow : yX2_holdRow.cls ≠ "java/lang/invoke/MethodHandle" ∧ yX2_holdRow.cls ≠ "java/lang/invoke/VarHandle" ∧ (parseMethodDescriptor yX2_holdRow.desc).map (fun d => d.parameters.length) = some 1 := by decide +kernel
theorem hv_X2_holdRow : yX2_holdRow.cls = RX2 ∧ yX2_holdRow.cls ≠ "java/lang/invoke/MethodHandle" ∧ yX2_holdRow.cls ≠ "java/lang/invoke/VarHandle" ∧ (parseMethodDescriptor yX2_holdRow.desc).map (fun d => d.parameters.length) = some 1 := ⟨rfl, hd_X2_holdRow⟩
theorem hd_X2_refusalAs : yX2_refusalAs.cls ≠ "java/lang/invoke/MethodHandle" ∧ yX2_refusalAs.cls ≠ "java/lang/invoke/VarHandle" ∧ (parseMethodDescriptor yX2_refusalAs.desc).map (fun d => d.parameters.length) = some 1 := by decide +kernel
theorem hv_X2_refusalAs : yX2_refusalAs.cls = RX2 ∧ yX2_refusalAs.cls ≠ "java/lang/invoke/MethodHandle" ∧ yX2_refusalAs.cls ≠ "java/lang/invoke/VarHandle" ∧ (parseMethodDescriptor yX2_refusalAs.desc).map (fun d => d.parameters.length) = some 1 := ⟨rfl, hd_X2_refusalAs⟩
theorem hd_X2_hasPlace : yX2_hasPlace.cls ≠ "java/lang/invoke/MethodHandle" ∧ yX2_hasPlace.cls ≠ "java/lang/invoke/VarHandle" ∧ (parseMethodDescriptor yX2_hasPlace.desc).map (fun d => d.parameters.length) = some 1 := by decide +kernel
theorem hv_X2_hasPlace : yX2_hasPlace.cls = RX2 ∧ yX2_hasPlace.cls ≠ "java/lang/invoke/MethodHandle" ∧ yX2_hasPlace.cls ≠ "java/lang/invoke/VarHandle" ∧ (parseMethodDescriptor yX2_hasPlace.desc).map (fun d => d.parameters.length) = some 1 := ⟨rfl, hd_X2_hasPlace⟩
theorem hd_X2_firstUnlike : yX2_firstUnlike.cls ≠ "java/lang/invoke/MethodHandle" ∧ yX2_firstUnlike.cls ≠ "java/lang/invoke/VarHandle" ∧ (parseMethodDescriptor yX2_firstUnlike.desc).map (fun d => d.parameters.length) = some 1 := by decide +kernel
theorem hv_X2_firstUnlike : yX2_firstUnlike.cls = RX2 ∧ yX2_firstUnlike.cls ≠ "java/lang/invoke/MethodHandle" ∧ yX2_firstUnlike.cls ≠ "java/lang/invoke/VarHandle" ∧ (parseMethodDescriptor yX2_firstUnlike.desc).map (fun d => d.parameters.length) = some 1 := ⟨rfl, hd_X2_firstUnlike⟩
theorem hd_X3_init : yX3_init.cls ≠ "java/lang/invoke/MethodHandle" ∧ yX3_init.cls ≠ "java/lang/invoke/VarHandle" ∧ (parseMethodDescriptor yX3_init.desc).map (fun d => d.parameters.length) = some 0 := by decide +kernel
theorem hv_X3_init : yX3_init.cls = RX3 ∧ yX3_init.cls ≠ "java/lang/invoke/MethodHandle" ∧ yX3_init.cls ≠ "java/lang/invoke/VarHandle" ∧ (parseMethodDescriptor yX3_init.desc).map (fun d => d.parameters.length) = some 0 := ⟨rfl, hd_X3_init⟩
theorem hd_X3_parse : yX3_parse.cls ≠ "java/lang/invoke/MethodHandle" ∧ yX3_parse.cls ≠ "java/lang/invoke/VarHandle" ∧ (parseMethodDescriptor yX3_parse.desc).map (fun d => d.parameters.length) = some 2 := by decide +kernel
theorem hv_X3_parse : yX3_parse.cls = RX3 ∧ yX3_parse.cls ≠ "java/lang/invoke/MethodHandle" ∧ yX3_parse.cls ≠ "java/lang/invoke/VarHandle" ∧ (parseMethodDescriptor yX3_parse.desc).map (fun d => d.parameters.length) = some 2 := ⟨rfl, hd_X3_parse⟩
theorem hd_X3_takesPeriod : yX3_takesPeriod.cls ≠ "java/lang/invoke/MethodHandle" ∧ yX3_takesPeriod.cls ≠ "java/lang/invoke/VarHandle" ∧ (parseMethodDescriptor yX3_takesPeriod.desc).map (fun d => d.parameters.length) = some 2 := by decide +kernel
theorem hv_X3_takesPeriod : yX3_takesPeriod.cls = RX3 ∧ yX3_takesPeriod.cls ≠ "java/lang/invoke/MethodHandle" ∧ yX3_takesPeriod.cls ≠ "java/lang/invoke/VarHandle" ∧ (parseMethodDescriptor yX3_takesPeriod.desc).map (fun d => d.parameters.length) = some 2 := ⟨rfl, hd_X3_takesPeriod⟩
theorem hd_X4_init : yX4_init.cls ≠ "java/lang/invoke/MethodHandle" ∧ yX4_init.cls ≠ "java/lang/invoke/VarHandle" ∧ (parseMethodDescriptor yX4_init.desc).map (fun d => d.parameters.length) = some 0 := by decide +kernel
theorem hv_X4_init : yX4_init.cls = RX4 ∧ yX4_init.cls ≠ "java/lang/invoke/MethodHandle" ∧ yX4_init.cls ≠ "java/lang/invoke/VarHandle" ∧ (parseMethodDescriptor yX4_init.desc).map (fun d => d.parameters.length) = some 0 := ⟨rfl, hd_X4_init⟩
theorem hd_X4_load : yX4_load.cls ≠ "java/lang/invoke/MethodHandle" ∧ yX4_load.cls ≠ "java/lang/invoke/VarHandle" ∧ (parseMethodDescriptor yX4_load.desc).map (fun d => d.parameters.length) = some 1 := by decide +kernel
theorem hv_X4_load : yX4_load.cls = RX4 ∧ yX4_load.cls ≠ "java/lang/invoke/MethodHandle" ∧ yX4_load.cls ≠ "java/lang/invoke/VarHandle" ∧ (parseMethodDescriptor yX4_load.desc).map (fun d => d.parameters.length) = some 1 := ⟨rfl, hd_X4_load⟩
theorem hd_X4_placeOfBlocks : yX4_placeOfBlocks.cls ≠ "java/lang/invoke/MethodHandle" ∧ yX4_placeOfBlocks.cls ≠ "java/lang/invoke/VarHandle" ∧ (parseMethodDescriptor yX4_placeOfBlocks.desc).map (fun d => d.parameters.length) = some 4 := by decide +kernel
theorem hv_X4_placeOfBlocks : yX4_placeOfBlocks.cls = RX4 ∧ yX4_placeOfBlocks.cls ≠ "java/lang/invoke/MethodHandle" ∧ yX4_placeOfBlocks.cls ≠ "java/lang/invoke/VarHandle" ∧ (parseMethodDescriptor yX4_placeOfBlocks.desc).map (fun d => d.parameters.length) = some 4 := ⟨rfl, hd_X4_placeOfBlocks⟩
theorem hd_X4_worthTogether : yX4_worthTogether.cls ≠ "java/lang/invoke/MethodHandle" ∧ yX4_worthTogether.cls ≠ "java/lang/invoke/VarHandle" ∧ (parseMethodDescriptor yX4_worthTogether.desc).map (fun d => d.parameters.length) = some 2 := by decide +kernel
theorem hv_X4_worthTogether : yX4_worthTogether.cls = RX4 ∧ yX4_worthTogether.cls ≠ "java/lang/invoke/MethodHandle" ∧ yX4_worthTogether.cls ≠ "java/lang/invoke/VarHandle" ∧ (parseMethodDescriptor yX4_worthTogether.desc).map (fun d => d.parameters.length) = some 2 := ⟨rfl, hd_X4_worthTogether⟩
theorem hd_X4_worth : yX4_worth.cls ≠ "java/lang/invoke/MethodHandle" ∧ yX4_worth.cls ≠ "java/lang/invoke/VarHandle" ∧ (parseMethodDescriptor yX4_worth.desc).map (fun d => d.parameters.length) = some 4 := by decide +kernel
theorem hd_X5_init : yX5_init.cls ≠ "java/lang/invoke/MethodHandle" ∧ yX5_init.cls ≠ "java/lang/invoke/VarHandle" ∧ (parseMethodDescriptor yX5_init.desc).map (fun d => d.parameters.length) = some 0 := by decide +kernel
theorem hv_X5_init : yX5_init.cls = RX5 ∧ yX5_init.cls ≠ "java/lang/invoke/MethodHandle" ∧ yX5_init.cls ≠ "java/lang/invoke/VarHandle" ∧ (parseMethodDescriptor yX5_init.desc).map (fun d => d.parameters.length) = some 0 := ⟨rfl, hd_X5_init⟩
theorem hd_X5_word : yX5_word.cls ≠ "java/lang/invoke/MethodHandle" ∧ yX5_word.cls ≠ "java/lang/invoke/VarHandle" ∧ (parseMethodDescriptor yX5_word.desc).map (fun d => d.parameters.length) = some 1 := by decide +kernel
theorem hv_X5_word : yX5_word.cls = RX5 ∧ yX5_word.cls ≠ "java/lang/invoke/MethodHandle" ∧ yX5_word.cls ≠ "java/lang/invoke/VarHandle" ∧ (parseMethodDescriptor yX5_word.desc).map (fun d => d.parameters.length) = some 1 := ⟨rfl, hd_X5_word⟩
theorem hd_X5_number : yX5_number.cls ≠ "java/lang/invoke/MethodHandle" ∧ yX5_number.cls ≠ "java/lang/invoke/VarHandle" ∧ (parseMethodDescriptor yX5_number.desc).map (fun d => d.parameters.length) = some 2 := by decide +kernel
theorem hv_X5_number : yX5_number.cls = RX5 ∧ yX5_number.cls ≠ "java/lang/invoke/MethodHandle" ∧ yX5_number.cls ≠ "java/lang/invoke/VarHandle" ∧ (parseMethodDescriptor yX5_number.desc).map (fun d => d.parameters.length) = some 2 := ⟨rfl, hd_X5_number⟩
theorem hd_X5_parse : yX5_parse.cls ≠ "java/lang/invoke/MethodHandle" ∧ yX5_parse.cls ≠ "java/lang/invoke/VarHandle" ∧ (parseMethodDescriptor yX5_parse.desc).map (fun d => d.parameters.length) = some 1 := by decide +kernel
theorem hv_X5_parse : yX5_parse.cls = RX5 ∧ yX5_parse.cls ≠ "java/lang/invoke/MethodHandle" ∧ yX5_parse.cls ≠ "java/lang/invoke/VarHandle" ∧ (parseMethodDescriptor yX5_parse.desc).map (fun d => d.parameters.length) = some 1 := ⟨rfl, hd_X5_parse⟩
theorem hd_X5_parseCommand : yX5_parseCommand.cls ≠ "java/lang/invoke/MethodHandle" ∧ yX5_parseCommand.cls ≠ "java/lang/invoke/VarHandle" ∧ (parseMethodDescriptor yX5_parseCommand.desc).map (fun d => d.parameters.length) = some 1 := by decide +kernel
theorem hv_X5_parseCommand : yX5_parseCommand.cls = RX5 ∧ yX5_parseCommand.cls ≠ "java/lang/invoke/MethodHandle" ∧ yX5_parseCommand.cls ≠ "java/lang/invoke/VarHandle" ∧ (parseMethodDescriptor yX5_parseCommand.desc).map (fun d => d.parameters.length) = some 1 := ⟨rfl, hd_X5_parseCommand⟩
theorem hd_X5_wordBetween : yX5_wordBetween.cls ≠ "java/lang/invoke/MethodHandle" ∧ yX5_wordBetween.cls ≠ "java/lang/invoke/VarHandle" ∧ (parseMethodDescriptor yX5_wordBetween.desc).map (fun d => d.parameters.length) = some 2 := by decide +kernel
theorem hd_X5_wordText : yX5_wordText.cls ≠ "java/lang/invoke/MethodHandle" ∧ yX5_wordText.cls ≠ "java/lang/invoke/VarHandle" ∧ (parseMethodDescriptor yX5_wordText.desc).map (fun d => d.parameters.length) = some 1 := by decide +kernel
theorem hd_X5_numbersOf : yX5_numbersOf.cls ≠ "java/lang/invoke/MethodHandle" ∧ yX5_numbersOf.cls ≠ "java/lang/invoke/VarHandle" ∧ (parseMethodDescriptor yX5_numbersOf.desc).map (fun d => d.parameters.length) = some 1 := by decide +kernel
theorem hd_X6_init : yX6_init.cls ≠ "java/lang/invoke/MethodHandle" ∧ yX6_init.cls ≠ "java/lang/invoke/VarHandle" ∧ (parseMethodDescriptor yX6_init.desc).map (fun d => d.parameters.length) = some 0 := by decide +kernel
theorem hv_X6_init : yX6_init.cls = RX6 ∧ yX6_init.cls ≠ "java/lang/invoke/MethodHandle" ∧ yX6_init.cls ≠ "java/lang/invoke/VarHandle" ∧ (parseMethodDescriptor yX6_init.desc).map (fun d => d.parameters.length) = some 0 := ⟨rfl, hd_X6_init⟩
theorem hd_X6_at : yX6_at.cls ≠ "java/lang/invoke/MethodHandle" ∧ yX6_at.cls ≠ "java/lang/invoke/VarHandle" ∧ (parseMethodDescriptor yX6_at.desc).map (fun d => d.parameters.length) = some 1 := by decide +kernel
theorem hv_X6_at : yX6_at.cls = RX6 ∧ yX6_at.cls ≠ "java/lang/invoke/MethodHandle" ∧ yX6_at.cls ≠ "java/lang/invoke/VarHandle" ∧ (parseMethodDescriptor yX6_at.desc).map (fun d => d.parameters.length) = some 1 := ⟨rfl, hd_X6_at⟩
theorem hd_X6_add : yX6_add.cls ≠ "java/lang/invoke/MethodHandle" ∧ yX6_add.cls ≠ "java/lang/invoke/VarHandle" ∧ (parseMethodDescriptor yX6_add.desc).map (fun d => d.parameters.length) = some 3 := by decide +kernel
theorem hv_X6_add : yX6_add.cls = RX6 ∧ yX6_add.cls ≠ "java/lang/invoke/MethodHandle" ∧ yX6_add.cls ≠ "java/lang/invoke/VarHandle" ∧ (parseMethodDescriptor yX6_add.desc).map (fun d => d.parameters.length) = some 3 := ⟨rfl, hd_X6_add⟩
theorem hd_X6_takeAway : yX6_takeAway.cls ≠ "java/lang/invoke/MethodHandle" ∧ yX6_takeAway.cls ≠ "java/lang/invoke/VarHandle" ∧ (parseMethodDescriptor yX6_takeAway.desc).map (fun d => d.parameters.length) = some 1 := by decide +kernel
theorem hv_X6_takeAway : yX6_takeAway.cls = RX6 ∧ yX6_takeAway.cls ≠ "java/lang/invoke/MethodHandle" ∧ yX6_takeAway.cls ≠ "java/lang/invoke/VarHandle" ∧ (parseMethodDescriptor yX6_takeAway.desc).map (fun d => d.parameters.length) = some 1 := ⟨rfl, hd_X6_takeAway⟩
theorem hd_X6_becomeLike : yX6_becomeLike.cls ≠ "java/lang/invoke/MethodHandle" ∧ yX6_becomeLike.cls ≠ "java/lang/invoke/VarHandle" ∧ (parseMethodDescriptor yX6_becomeLike.desc).map (fun d => d.parameters.length) = some 1 := by decide +kernel
theorem hv_X6_becomeLike : yX6_becomeLike.cls = RX6 ∧ yX6_becomeLike.cls ≠ "java/lang/invoke/MethodHandle" ∧ yX6_becomeLike.cls ≠ "java/lang/invoke/VarHandle" ∧ (parseMethodDescriptor yX6_becomeLike.desc).map (fun d => d.parameters.length) = some 1 := ⟨rfl, hd_X6_becomeLike⟩
theorem hd_X7_init : yX7_init.cls ≠ "java/lang/invoke/MethodHandle" ∧ yX7_init.cls ≠ "java/lang/invoke/VarHandle" ∧ (parseMethodDescriptor yX7_init.desc).map (fun d => d.parameters.length) = some 0 := by decide +kernel
theorem hv_X7_init : yX7_init.cls = RX7 ∧ yX7_init.cls ≠ "java/lang/invoke/MethodHandle" ∧ yX7_init.cls ≠ "java/lang/invoke/VarHandle" ∧ (parseMethodDescriptor yX7_init.desc).map (fun d => d.parameters.length) = some 0 := ⟨rfl, hd_X7_init⟩
theorem hd_X7_add : yX7_add.cls ≠ "java/lang/invoke/MethodHandle" ∧ yX7_add.cls ≠ "java/lang/invoke/VarHandle" ∧ (parseMethodDescriptor yX7_add.desc).map (fun d => d.parameters.length) = some 1 := by decide +kernel
theorem hv_X7_add : yX7_add.cls = RX7 ∧ yX7_add.cls ≠ "java/lang/invoke/MethodHandle" ∧ yX7_add.cls ≠ "java/lang/invoke/VarHandle" ∧ (parseMethodDescriptor yX7_add.desc).map (fun d => d.parameters.length) = some 1 := ⟨rfl, hd_X7_add⟩
theorem hd_X7_clear : yX7_clear.cls ≠ "java/lang/invoke/MethodHandle" ∧ yX7_clear.cls ≠ "java/lang/invoke/VarHandle" ∧ (parseMethodDescriptor yX7_clear.desc).map (fun d => d.parameters.length) = some 0 := by decide +kernel
theorem hv_X7_clear : yX7_clear.cls = RX7 ∧ yX7_clear.cls ≠ "java/lang/invoke/MethodHandle" ∧ yX7_clear.cls ≠ "java/lang/invoke/VarHandle" ∧ (parseMethodDescriptor yX7_clear.desc).map (fun d => d.parameters.length) = some 0 := ⟨rfl, hd_X7_clear⟩
theorem hd_X7_byteAt : yX7_byteAt.cls ≠ "java/lang/invoke/MethodHandle" ∧ yX7_byteAt.cls ≠ "java/lang/invoke/VarHandle" ∧ (parseMethodDescriptor yX7_byteAt.desc).map (fun d => d.parameters.length) = some 1 := by decide +kernel
theorem hv_X7_byteAt : yX7_byteAt.cls = RX7 ∧ yX7_byteAt.cls ≠ "java/lang/invoke/MethodHandle" ∧ yX7_byteAt.cls ≠ "java/lang/invoke/VarHandle" ∧ (parseMethodDescriptor yX7_byteAt.desc).map (fun d => d.parameters.length) = some 1 := ⟨rfl, hd_X7_byteAt⟩
theorem hd_X7_bears : yX7_bears.cls ≠ "java/lang/invoke/MethodHandle" ∧ yX7_bears.cls ≠ "java/lang/invoke/VarHandle" ∧ (parseMethodDescriptor yX7_bears.desc).map (fun d => d.parameters.length) = some 3 := by decide +kernel
theorem hv_X7_bears : yX7_bears.cls = RX7 ∧ yX7_bears.cls ≠ "java/lang/invoke/MethodHandle" ∧ yX7_bears.cls ≠ "java/lang/invoke/VarHandle" ∧ (parseMethodDescriptor yX7_bears.desc).map (fun d => d.parameters.length) = some 3 := ⟨rfl, hd_X7_bears⟩
theorem hd_X7_isAtEnd : yX7_isAtEnd.cls ≠ "java/lang/invoke/MethodHandle" ∧ yX7_isAtEnd.cls ≠ "java/lang/invoke/VarHandle" ∧ (parseMethodDescriptor yX7_isAtEnd.desc).map (fun d => d.parameters.length) = some 0 := by decide +kernel
theorem hv_X7_isAtEnd : yX7_isAtEnd.cls = RX7 ∧ yX7_isAtEnd.cls ≠ "java/lang/invoke/MethodHandle" ∧ yX7_isAtEnd.cls ≠ "java/lang/invoke/VarHandle" ∧ (parseMethodDescriptor yX7_isAtEnd.desc).map (fun d => d.parameters.length) = some 0 := ⟨rfl, hd_X7_isAtEnd⟩
theorem hd_X7_takes : yX7_takes.cls ≠ "java/lang/invoke/MethodHandle" ∧ yX7_takes.cls ≠ "java/lang/invoke/VarHandle" ∧ (parseMethodDescriptor yX7_takes.desc).map (fun d => d.parameters.length) = some 1 := by decide +kernel
theorem hv_X7_takes : yX7_takes.cls = RX7 ∧ yX7_takes.cls ≠ "java/lang/invoke/MethodHandle" ∧ yX7_takes.cls ≠ "java/lang/invoke/VarHandle" ∧ (parseMethodDescriptor yX7_takes.desc).map (fun d => d.parameters.length) = some 1 := ⟨rfl, hd_X7_takes⟩
theorem hd_X7_takeLetters : yX7_takeLetters.cls ≠ "java/lang/invoke/MethodHandle" ∧ yX7_takeLetters.cls ≠ "java/lang/invoke/VarHandle" ∧ (parseMethodDescriptor yX7_takeLetters.desc).map (fun d => d.parameters.length) = some 0 := by decide +kernel
theorem hv_X7_takeLetters : yX7_takeLetters.cls = RX7 ∧ yX7_takeLetters.cls ≠ "java/lang/invoke/MethodHandle" ∧ yX7_takeLetters.cls ≠ "java/lang/invoke/VarHandle" ∧ (parseMethodDescriptor yX7_takeLetters.desc).map (fun d => d.parameters.length) = some 0 := ⟨rfl, hd_X7_takeLetters⟩
theorem hd_X7_takeDigits : yX7_takeDigits.cls ≠ "java/lang/invoke/MethodHandle" ∧ yX7_takeDigits.cls ≠ "java/lang/invoke/VarHandle" ∧ (parseMethodDescriptor yX7_takeDigits.desc).map (fun d => d.parameters.length) = some 1 := by decide +kernel
theorem hv_X7_takeDigits : yX7_takeDigits.cls = RX7 ∧ yX7_takeDigits.cls ≠ "java/lang/invoke/MethodHandle" ∧ yX7_takeDigits.cls ≠ "java/lang/invoke/VarHandle" ∧ (parseMethodDescriptor yX7_takeDigits.desc).map (fun d => d.parameters.length) = some 1 := ⟨rfl, hd_X7_takeDigits⟩
theorem hd_X7_digitOn : yX7_digitOn.cls ≠ "java/lang/invoke/MethodHandle" ∧ yX7_digitOn.cls ≠ "java/lang/invoke/VarHandle" ∧ (parseMethodDescriptor yX7_digitOn.desc).map (fun d => d.parameters.length) = some 1 := by decide +kernel
theorem hv_X7_digitOn : yX7_digitOn.cls = RX7 ∧ yX7_digitOn.cls ≠ "java/lang/invoke/MethodHandle" ∧ yX7_digitOn.cls ≠ "java/lang/invoke/VarHandle" ∧ (parseMethodDescriptor yX7_digitOn.desc).map (fun d => d.parameters.length) = some 1 := ⟨rfl, hd_X7_digitOn⟩
theorem hd_X8_init : yX8_init.cls ≠ "java/lang/invoke/MethodHandle" ∧ yX8_init.cls ≠ "java/lang/invoke/VarHandle" ∧ (parseMethodDescriptor yX8_init.desc).map (fun d => d.parameters.length) = some 0 := by decide +kernel
theorem hv_X8_init : yX8_init.cls = RX8 ∧ yX8_init.cls ≠ "java/lang/invoke/MethodHandle" ∧ yX8_init.cls ≠ "java/lang/invoke/VarHandle" ∧ (parseMethodDescriptor yX8_init.desc).map (fun d => d.parameters.length) = some 0 := ⟨rfl, hd_X8_init⟩
theorem hd_X8_fraction : yX8_fraction.cls ≠ "java/lang/invoke/MethodHandle" ∧ yX8_fraction.cls ≠ "java/lang/invoke/VarHandle" ∧ (parseMethodDescriptor yX8_fraction.desc).map (fun d => d.parameters.length) = some 3 := by decide +kernel
theorem hv_X8_fraction : yX8_fraction.cls = RX8 ∧ yX8_fraction.cls ≠ "java/lang/invoke/MethodHandle" ∧ yX8_fraction.cls ≠ "java/lang/invoke/VarHandle" ∧ (parseMethodDescriptor yX8_fraction.desc).map (fun d => d.parameters.length) = some 3 := ⟨rfl, hd_X8_fraction⟩
theorem hd_X8_drop : yX8_drop.cls ≠ "java/lang/invoke/MethodHandle" ∧ yX8_drop.cls ≠ "java/lang/invoke/VarHandle" ∧ (parseMethodDescriptor yX8_drop.desc).map (fun d => d.parameters.length) = some 1 := by decide +kernel
theorem hv_X8_drop : yX8_drop.cls = RX8 ∧ yX8_drop.cls ≠ "java/lang/invoke/MethodHandle" ∧ yX8_drop.cls ≠ "java/lang/invoke/VarHandle" ∧ (parseMethodDescriptor yX8_drop.desc).map (fun d => d.parameters.length) = some 1 := ⟨rfl, hd_X8_drop⟩
theorem hd_X8_multiply : yX8_multiply.cls ≠ "java/lang/invoke/MethodHandle" ∧ yX8_multiply.cls ≠ "java/lang/invoke/VarHandle" ∧ (parseMethodDescriptor yX8_multiply.desc).map (fun d => d.parameters.length) = some 2 := by decide +kernel
theorem hv_X8_multiply : yX8_multiply.cls = RX8 ∧ yX8_multiply.cls ≠ "java/lang/invoke/MethodHandle" ∧ yX8_multiply.cls ≠ "java/lang/invoke/VarHandle" ∧ (parseMethodDescriptor yX8_multiply.desc).map (fun d => d.parameters.length) = some 2 := ⟨rfl, hd_X8_multiply⟩
theorem hd_X8_sum : yX8_sum.cls ≠ "java/lang/invoke/MethodHandle" ∧ yX8_sum.cls ≠ "java/lang/invoke/VarHandle" ∧ (parseMethodDescriptor yX8_sum.desc).map (fun d => d.parameters.length) = some 2 := by decide +kernel
theorem hv_X8_sum : yX8_sum.cls = RX8 ∧ yX8_sum.cls ≠ "java/lang/invoke/MethodHandle" ∧ yX8_sum.cls ≠ "java/lang/invoke/VarHandle" ∧ (parseMethodDescriptor yX8_sum.desc).map (fun d => d.parameters.length) = some 2 := ⟨rfl, hd_X8_sum⟩
theorem hd_X8_lowest : yX8_lowest.cls ≠ "java/lang/invoke/MethodHandle" ∧ yX8_lowest.cls ≠ "java/lang/invoke/VarHandle" ∧ (parseMethodDescriptor yX8_lowest.desc).map (fun d => d.parameters.length) = some 1 := by decide +kernel
theorem hv_X8_lowest : yX8_lowest.cls = RX8 ∧ yX8_lowest.cls ≠ "java/lang/invoke/MethodHandle" ∧ yX8_lowest.cls ≠ "java/lang/invoke/VarHandle" ∧ (parseMethodDescriptor yX8_lowest.desc).map (fun d => d.parameters.length) = some 1 := ⟨rfl, hd_X8_lowest⟩
theorem hd_X8_of : yX8_of.cls ≠ "java/lang/invoke/MethodHandle" ∧ yX8_of.cls ≠ "java/lang/invoke/VarHandle" ∧ (parseMethodDescriptor yX8_of.desc).map (fun d => d.parameters.length) = some 2 := by decide +kernel
theorem hv_X8_of : yX8_of.cls = RX8 ∧ yX8_of.cls ≠ "java/lang/invoke/MethodHandle" ∧ yX8_of.cls ≠ "java/lang/invoke/VarHandle" ∧ (parseMethodDescriptor yX8_of.desc).map (fun d => d.parameters.length) = some 2 := ⟨rfl, hd_X8_of⟩
theorem hd_X8_digit : yX8_digit.cls ≠ "java/lang/invoke/MethodHandle" ∧ yX8_digit.cls ≠ "java/lang/invoke/VarHandle" ∧ (parseMethodDescriptor yX8_digit.desc).map (fun d => d.parameters.length) = some 2 := by decide +kernel
theorem hv_X8_digit : yX8_digit.cls = RX8 ∧ yX8_digit.cls ≠ "java/lang/invoke/MethodHandle" ∧ yX8_digit.cls ≠ "java/lang/invoke/VarHandle" ∧ (parseMethodDescriptor yX8_digit.desc).map (fun d => d.parameters.length) = some 2 := ⟨rfl, hd_X8_digit⟩
theorem hd_X8_rest : yX8_rest.cls ≠ "java/lang/invoke/MethodHandle" ∧ yX8_rest.cls ≠ "java/lang/invoke/VarHandle" ∧ (parseMethodDescriptor yX8_rest.desc).map (fun d => d.parameters.length) = some 2 := by decide +kernel
theorem hv_X8_rest : yX8_rest.cls = RX8 ∧ yX8_rest.cls ≠ "java/lang/invoke/MethodHandle" ∧ yX8_rest.cls ≠ "java/lang/invoke/VarHandle" ∧ (parseMethodDescriptor yX8_rest.desc).map (fun d => d.parameters.length) = some 2 := ⟨rfl, hd_X8_rest⟩
theorem hd_X8_place : yX8_place.cls ≠ "java/lang/invoke/MethodHandle" ∧ yX8_place.cls ≠ "java/lang/invoke/VarHandle" ∧ (parseMethodDescriptor yX8_place.desc).map (fun d => d.parameters.length) = some 2 := by decide +kernel
theorem hv_X8_place : yX8_place.cls = RX8 ∧ yX8_place.cls ≠ "java/lang/invoke/MethodHandle" ∧ yX8_place.cls ≠ "java/lang/invoke/VarHandle" ∧ (parseMethodDescriptor yX8_place.desc).map (fun d => d.parameters.length) = some 2 := ⟨rfl, hd_X8_place⟩
theorem hd_X8_block : yX8_block.cls ≠ "java/lang/invoke/MethodHandle" ∧ yX8_block.cls ≠ "java/lang/invoke/VarHandle" ∧ (parseMethodDescriptor yX8_block.desc).map (fun d => d.parameters.length) = some 3 := by decide +kernel
theorem hv_X8_block : yX8_block.cls = RX8 ∧ yX8_block.cls ≠ "java/lang/invoke/MethodHandle" ∧ yX8_block.cls ≠ "java/lang/invoke/VarHandle" ∧ (parseMethodDescriptor yX8_block.desc).map (fun d => d.parameters.length) = some 3 := ⟨rfl, hd_X8_block⟩
theorem hd_X8_nines : yX8_nines.cls ≠ "java/lang/invoke/MethodHandle" ∧ yX8_nines.cls ≠ "java/lang/invoke/VarHandle" ∧ (parseMethodDescriptor yX8_nines.desc).map (fun d => d.parameters.length) = some 2 := by decide +kernel
theorem hv_X8_nines : yX8_nines.cls = RX8 ∧ yX8_nines.cls ≠ "java/lang/invoke/MethodHandle" ∧ yX8_nines.cls ≠ "java/lang/invoke/VarHandle" ∧ (parseMethodDescriptor yX8_nines.desc).map (fun d => d.parameters.length) = some 2 := ⟨rfl, hd_X8_nines⟩
theorem hd_X8_shift : yX8_shift.cls ≠ "java/lang/invoke/MethodHandle" ∧ yX8_shift.cls ≠ "java/lang/invoke/VarHandle" ∧ (parseMethodDescriptor yX8_shift.desc).map (fun d => d.parameters.length) = some 2 := by decide +kernel
theorem hv_X8_shift : yX8_shift.cls = RX8 ∧ yX8_shift.cls ≠ "java/lang/invoke/MethodHandle" ∧ yX8_shift.cls ≠ "java/lang/invoke/VarHandle" ∧ (parseMethodDescriptor yX8_shift.desc).map (fun d => d.parameters.length) = some 2 := ⟨rfl, hd_X8_shift⟩
theorem hd_X8_multiple : yX8_multiple.cls ≠ "java/lang/invoke/MethodHandle" ∧ yX8_multiple.cls ≠ "java/lang/invoke/VarHandle" ∧ (parseMethodDescriptor yX8_multiple.desc).map (fun d => d.parameters.length) = some 2 := by decide +kernel
theorem hv_X8_multiple : yX8_multiple.cls = RX8 ∧ yX8_multiple.cls ≠ "java/lang/invoke/MethodHandle" ∧ yX8_multiple.cls ≠ "java/lang/invoke/VarHandle" ∧ (parseMethodDescriptor yX8_multiple.desc).map (fun d => d.parameters.length) = some 2 := ⟨rfl, hd_X8_multiple⟩
theorem hd_X8_order : yX8_order.cls ≠ "java/lang/invoke/MethodHandle" ∧ yX8_order.cls ≠ "java/lang/invoke/VarHandle" ∧ (parseMethodDescriptor yX8_order.desc).map (fun d => d.parameters.length) = some 2 := by decide +kernel
theorem hv_X8_order : yX8_order.cls = RX8 ∧ yX8_order.cls ≠ "java/lang/invoke/MethodHandle" ∧ yX8_order.cls ≠ "java/lang/invoke/VarHandle" ∧ (parseMethodDescriptor yX8_order.desc).map (fun d => d.parameters.length) = some 2 := ⟨rfl, hd_X8_order⟩
theorem hd_X8_cycles : yX8_cycles.cls ≠ "java/lang/invoke/MethodHandle" ∧ yX8_cycles.cls ≠ "java/lang/invoke/VarHandle" ∧ (parseMethodDescriptor yX8_cycles.desc).map (fun d => d.parameters.length) = some 3 := by decide +kernel
theorem hv_X8_cycles : yX8_cycles.cls = RX8 ∧ yX8_cycles.cls ≠ "java/lang/invoke/MethodHandle" ∧ yX8_cycles.cls ≠ "java/lang/invoke/VarHandle" ∧ (parseMethodDescriptor yX8_cycles.desc).map (fun d => d.parameters.length) = some 3 := ⟨rfl, hd_X8_cycles⟩
theorem hd_X8_full : yX8_full.cls ≠ "java/lang/invoke/MethodHandle" ∧ yX8_full.cls ≠ "java/lang/invoke/VarHandle" ∧ (parseMethodDescriptor yX8_full.desc).map (fun d => d.parameters.length) = some 4 := by decide +kernel
theorem hv_X8_full : yX8_full.cls = RX8 ∧ yX8_full.cls ≠ "java/lang/invoke/MethodHandle" ∧ yX8_full.cls ≠ "java/lang/invoke/VarHandle" ∧ (parseMethodDescriptor yX8_full.desc).map (fun d => d.parameters.length) = some 4 := ⟨rfl, hd_X8_full⟩
theorem hd_X8_list : yX8_list.cls ≠ "java/lang/invoke/MethodHandle" ∧ yX8_list.cls ≠ "java/lang/invoke/VarHandle" ∧ (parseMethodDescriptor yX8_list.desc).map (fun d => d.parameters.length) = some 2 := by decide +kernel
theorem hv_X8_list : yX8_list.cls = RX8 ∧ yX8_list.cls ≠ "java/lang/invoke/MethodHandle" ∧ yX8_list.cls ≠ "java/lang/invoke/VarHandle" ∧ (parseMethodDescriptor yX8_list.desc).map (fun d => d.parameters.length) = some 2 := ⟨rfl, hd_X8_list⟩
theorem hd_X8_thin : yX8_thin.cls ≠ "java/lang/invoke/MethodHandle" ∧ yX8_thin.cls ≠ "java/lang/invoke/VarHandle" ∧ (parseMethodDescriptor yX8_thin.desc).map (fun d => d.parameters.length) = some 0 := by decide +kernel
theorem hv_X8_thin : yX8_thin.cls = RX8 ∧ yX8_thin.cls ≠ "java/lang/invoke/MethodHandle" ∧ yX8_thin.cls ≠ "java/lang/invoke/VarHandle" ∧ (parseMethodDescriptor yX8_thin.desc).map (fun d => d.parameters.length) = some 0 := ⟨rfl, hd_X8_thin⟩
theorem hd_X8_listed : yX8_listed.cls ≠ "java/lang/invoke/MethodHandle" ∧ yX8_listed.cls ≠ "java/lang/invoke/VarHandle" ∧ (parseMethodDescriptor yX8_listed.desc).map (fun d => d.parameters.length) = some 1 := by decide +kernel
theorem hv_X8_listed : yX8_listed.cls = RX8 ∧ yX8_listed.cls ≠ "java/lang/invoke/MethodHandle" ∧ yX8_listed.cls ≠ "java/lang/invoke/VarHandle" ∧ (parseMethodDescriptor yX8_listed.desc).map (fun d => d.parameters.length) = some 1 := ⟨rfl, hd_X8_listed⟩
theorem hd_X8_tells : yX8_tells.cls ≠ "java/lang/invoke/MethodHandle" ∧ yX8_tells.cls ≠ "java/lang/invoke/VarHandle" ∧ (parseMethodDescriptor yX8_tells.desc).map (fun d => d.parameters.length) = some 3 := by decide +kernel
theorem hv_X8_tells : yX8_tells.cls = RX8 ∧ yX8_tells.cls ≠ "java/lang/invoke/MethodHandle" ∧ yX8_tells.cls ≠ "java/lang/invoke/VarHandle" ∧ (parseMethodDescriptor yX8_tells.desc).map (fun d => d.parameters.length) = some 3 := ⟨rfl, hd_X8_tells⟩
theorem hd_X8_feed : yX8_feed.cls ≠ "java/lang/invoke/MethodHandle" ∧ yX8_feed.cls ≠ "java/lang/invoke/VarHandle" ∧ (parseMethodDescriptor yX8_feed.desc).map (fun d => d.parameters.length) = some 2 := by decide +kernel
theorem hv_X8_feed : yX8_feed.cls = RX8 ∧ yX8_feed.cls ≠ "java/lang/invoke/MethodHandle" ∧ yX8_feed.cls ≠ "java/lang/invoke/VarHandle" ∧ (parseMethodDescriptor yX8_feed.desc).map (fun d => d.parameters.length) = some 2 := ⟨rfl, hd_X8_feed⟩
theorem hd_X8_wipe : yX8_wipe.cls ≠ "java/lang/invoke/MethodHandle" ∧ yX8_wipe.cls ≠ "java/lang/invoke/VarHandle" ∧ (parseMethodDescriptor yX8_wipe.desc).map (fun d => d.parameters.length) = some 0 := by decide +kernel
theorem hv_X8_wipe : yX8_wipe.cls = RX8 ∧ yX8_wipe.cls ≠ "java/lang/invoke/MethodHandle" ∧ yX8_wipe.cls ≠ "java/lang/invoke/VarHandle" ∧ (parseMethodDescriptor yX8_wipe.desc).map (fun d => d.parameters.length) = some 0 := ⟨rfl, hd_X8_wipe⟩
theorem hd_X8_spell : yX8_spell.cls ≠ "java/lang/invoke/MethodHandle" ∧ yX8_spell.cls ≠ "java/lang/invoke/VarHandle" ∧ (parseMethodDescriptor yX8_spell.desc).map (fun d => d.parameters.length) = some 2 := by decide +kernel
theorem hv_X8_spell : yX8_spell.cls = RX8 ∧ yX8_spell.cls ≠ "java/lang/invoke/MethodHandle" ∧ yX8_spell.cls ≠ "java/lang/invoke/VarHandle" ∧ (parseMethodDescriptor yX8_spell.desc).map (fun d => d.parameters.length) = some 2 := ⟨rfl, hd_X8_spell⟩
theorem hd_X8_read : yX8_read.cls ≠ "java/lang/invoke/MethodHandle" ∧ yX8_read.cls ≠ "java/lang/invoke/VarHandle" ∧ (parseMethodDescriptor yX8_read.desc).map (fun d => d.parameters.length) = some 1 := by decide +kernel
theorem hv_X8_read : yX8_read.cls = RX8 ∧ yX8_read.cls ≠ "java/lang/invoke/MethodHandle" ∧ yX8_read.cls ≠ "java/lang/invoke/VarHandle" ∧ (parseMethodDescriptor yX8_read.desc).map (fun d => d.parameters.length) = some 1 := ⟨rfl, hd_X8_read⟩
theorem hd_X8_run : yX8_run.cls ≠ "java/lang/invoke/MethodHandle" ∧ yX8_run.cls ≠ "java/lang/invoke/VarHandle" ∧ (parseMethodDescriptor yX8_run.desc).map (fun d => d.parameters.length) = some 0 := by decide +kernel
theorem hv_X8_run : yX8_run.cls = RX8 ∧ yX8_run.cls ≠ "java/lang/invoke/MethodHandle" ∧ yX8_run.cls ≠ "java/lang/invoke/VarHandle" ∧ (parseMethodDescriptor yX8_run.desc).map (fun d => d.parameters.length) = some 0 := ⟨rfl, hd_X8_run⟩
theorem hd_X8_hold : yX8_hold.cls ≠ "java/lang/invoke/MethodHandle" ∧ yX8_hold.cls ≠ "java/lang/invoke/VarHandle" ∧ (parseMethodDescriptor yX8_hold.desc).map (fun d => d.parameters.length) = some 2 := by decide +kernel
theorem hv_X8_hold : yX8_hold.cls = RX8 ∧ yX8_hold.cls ≠ "java/lang/invoke/MethodHandle" ∧ yX8_hold.cls ≠ "java/lang/invoke/VarHandle" ∧ (parseMethodDescriptor yX8_hold.desc).map (fun d => d.parameters.length) = some 2 := ⟨rfl, hd_X8_hold⟩
theorem hd_X8_lose : yX8_lose.cls ≠ "java/lang/invoke/MethodHandle" ∧ yX8_lose.cls ≠ "java/lang/invoke/VarHandle" ∧ (parseMethodDescriptor yX8_lose.desc).map (fun d => d.parameters.length) = some 1 := by decide +kernel
theorem hv_X8_lose : yX8_lose.cls = RX8 ∧ yX8_lose.cls ≠ "java/lang/invoke/MethodHandle" ∧ yX8_lose.cls ≠ "java/lang/invoke/VarHandle" ∧ (parseMethodDescriptor yX8_lose.desc).map (fun d => d.parameters.length) = some 1 := ⟨rfl, hd_X8_lose⟩
theorem hd_X8_taken : yX8_taken.cls ≠ "java/lang/invoke/MethodHandle" ∧ yX8_taken.cls ≠ "java/lang/invoke/VarHandle" ∧ (parseMethodDescriptor yX8_taken.desc).map (fun d => d.parameters.length) = some 2 := by decide +kernel
theorem hv_X8_taken : yX8_taken.cls = RX8 ∧ yX8_taken.cls ≠ "java/lang/invoke/MethodHandle" ∧ yX8_taken.cls ≠ "java/lang/invoke/VarHandle" ∧ (parseMethodDescriptor yX8_taken.desc).map (fun d => d.parameters.length) = some 2 := ⟨rfl, hd_X8_taken⟩
theorem hd_X8_was : yX8_was.cls ≠ "java/lang/invoke/MethodHandle" ∧ yX8_was.cls ≠ "java/lang/invoke/VarHandle" ∧ (parseMethodDescriptor yX8_was.desc).map (fun d => d.parameters.length) = some 2 := by decide +kernel
theorem hv_X8_was : yX8_was.cls = RX8 ∧ yX8_was.cls ≠ "java/lang/invoke/MethodHandle" ∧ yX8_was.cls ≠ "java/lang/invoke/VarHandle" ∧ (parseMethodDescriptor yX8_was.desc).map (fun d => d.parameters.length) = some 2 := ⟨rfl, hd_X8_was⟩
theorem hd_X8_row : yX8_row.cls ≠ "java/lang/invoke/MethodHandle" ∧ yX8_row.cls ≠ "java/lang/invoke/VarHandle" ∧ (parseMethodDescriptor yX8_row.desc).map (fun d => d.parameters.length) = some 2 := by decide +kernel
theorem hv_X8_row : yX8_row.cls = RX8 ∧ yX8_row.cls ≠ "java/lang/invoke/MethodHandle" ∧ yX8_row.cls ≠ "java/lang/invoke/VarHandle" ∧ (parseMethodDescriptor yX8_row.desc).map (fun d => d.parameters.length) = some 2 := ⟨rfl, hd_X8_row⟩
theorem hd_X8_put : yX8_put.cls ≠ "java/lang/invoke/MethodHandle" ∧ yX8_put.cls ≠ "java/lang/invoke/VarHandle" ∧ (parseMethodDescriptor yX8_put.desc).map (fun d => d.parameters.length) = some 3 := by decide +kernel
theorem hv_X8_put : yX8_put.cls = RX8 ∧ yX8_put.cls ≠ "java/lang/invoke/MethodHandle" ∧ yX8_put.cls ≠ "java/lang/invoke/VarHandle" ∧ (parseMethodDescriptor yX8_put.desc).map (fun d => d.parameters.length) = some 3 := ⟨rfl, hd_X8_put⟩
theorem hd_X8_get : yX8_get.cls ≠ "java/lang/invoke/MethodHandle" ∧ yX8_get.cls ≠ "java/lang/invoke/VarHandle" ∧ (parseMethodDescriptor yX8_get.desc).map (fun d => d.parameters.length) = some 2 := by decide +kernel
theorem hv_X8_get : yX8_get.cls = RX8 ∧ yX8_get.cls ≠ "java/lang/invoke/MethodHandle" ∧ yX8_get.cls ≠ "java/lang/invoke/VarHandle" ∧ (parseMethodDescriptor yX8_get.desc).map (fun d => d.parameters.length) = some 2 := ⟨rfl, hd_X8_get⟩
theorem hd_X8_judge : yX8_judge.cls ≠ "java/lang/invoke/MethodHandle" ∧ yX8_judge.cls ≠ "java/lang/invoke/VarHandle" ∧ (parseMethodDescriptor yX8_judge.desc).map (fun d => d.parameters.length) = some 2 := by decide +kernel
theorem hv_X8_judge : yX8_judge.cls = RX8 ∧ yX8_judge.cls ≠ "java/lang/invoke/MethodHandle" ∧ yX8_judge.cls ≠ "java/lang/invoke/VarHandle" ∧ (parseMethodDescriptor yX8_judge.desc).map (fun d => d.parameters.length) = some 2 := ⟨rfl, hd_X8_judge⟩
theorem hd_X8_image : yX8_image.cls ≠ "java/lang/invoke/MethodHandle" ∧ yX8_image.cls ≠ "java/lang/invoke/VarHandle" ∧ (parseMethodDescriptor yX8_image.desc).map (fun d => d.parameters.length) = some 0 := by decide +kernel
theorem hv_X8_image : yX8_image.cls = RX8 ∧ yX8_image.cls ≠ "java/lang/invoke/MethodHandle" ∧ yX8_image.cls ≠ "java/lang/invoke/VarHandle" ∧ (parseMethodDescriptor yX8_image.desc).map (fun d => d.parameters.length) = some 0 := ⟨rfl, hd_X8_image⟩
theorem hd_X8_undo : yX8_undo.cls ≠ "java/lang/invoke/MethodHandle" ∧ yX8_undo.cls ≠ "java/lang/invoke/VarHandle" ∧ (parseMethodDescriptor yX8_undo.desc).map (fun d => d.parameters.length) = some 0 := by decide +kernel
theorem hv_X8_undo : yX8_undo.cls = RX8 ∧ yX8_undo.cls ≠ "java/lang/invoke/MethodHandle" ∧ yX8_undo.cls ≠ "java/lang/invoke/VarHandle" ∧ (parseMethodDescriptor yX8_undo.desc).map (fun d => d.parameters.length) = some 0 := ⟨rfl, hd_X8_undo⟩
theorem hd_X8_count : yX8_count.cls ≠ "java/lang/invoke/MethodHandle" ∧ yX8_count.cls ≠ "java/lang/invoke/VarHandle" ∧ (parseMethodDescriptor yX8_count.desc).map (fun d => d.parameters.length) = some 1 := by decide +kernel
theorem hv_X8_count : yX8_count.cls = RX8 ∧ yX8_count.cls ≠ "java/lang/invoke/MethodHandle" ∧ yX8_count.cls ≠ "java/lang/invoke/VarHandle" ∧ (parseMethodDescriptor yX8_count.desc).map (fun d => d.parameters.length) = some 1 := ⟨rfl, hd_X8_count⟩
theorem hd_X8_addInLowestTerms : yX8_addInLowestTerms.cls ≠ "java/lang/invoke/MethodHandle" ∧ yX8_addInLowestTerms.cls ≠ "java/lang/invoke/VarHandle" ∧ (parseMethodDescriptor yX8_addInLowestTerms.desc).map (fun d => d.parameters.length) = some 3 := by decide +kernel
theorem hv_X8_addInLowestTerms : yX8_addInLowestTerms.cls = RX8 ∧ yX8_addInLowestTerms.cls ≠ "java/lang/invoke/MethodHandle" ∧ yX8_addInLowestTerms.cls ≠ "java/lang/invoke/VarHandle" ∧ (parseMethodDescriptor yX8_addInLowestTerms.desc).map (fun d => d.parameters.length) = some 3 := ⟨rfl, hd_X8_addInLowestTerms⟩
theorem hd_X8_markRing : yX8_markRing.cls ≠ "java/lang/invoke/MethodHandle" ∧ yX8_markRing.cls ≠ "java/lang/invoke/VarHandle" ∧ (parseMethodDescriptor yX8_markRing.desc).map (fun d => d.parameters.length) = some 3 := by decide +kernel
theorem hv_X8_markRing : yX8_markRing.cls = RX8 ∧ yX8_markRing.cls ≠ "java/lang/invoke/MethodHandle" ∧ yX8_markRing.cls ≠ "java/lang/invoke/VarHandle" ∧ (parseMethodDescriptor yX8_markRing.desc).map (fun d => d.parameters.length) = some 3 := ⟨rfl, hd_X8_markRing⟩
theorem hd_X8_doCommand : yX8_doCommand.cls ≠ "java/lang/invoke/MethodHandle" ∧ yX8_doCommand.cls ≠ "java/lang/invoke/VarHandle" ∧ (parseMethodDescriptor yX8_doCommand.desc).map (fun d => d.parameters.length) = some 1 := by decide +kernel
theorem hv_X8_doCommand : yX8_doCommand.cls = RX8 ∧ yX8_doCommand.cls ≠ "java/lang/invoke/MethodHandle" ∧ yX8_doCommand.cls ≠ "java/lang/invoke/VarHandle" ∧ (parseMethodDescriptor yX8_doCommand.desc).map (fun d => d.parameters.length) = some 1 := ⟨rfl, hd_X8_doCommand⟩
theorem hd_X8_holderAt : yX8_holderAt.cls ≠ "java/lang/invoke/MethodHandle" ∧ yX8_holderAt.cls ≠ "java/lang/invoke/VarHandle" ∧ (parseMethodDescriptor yX8_holderAt.desc).map (fun d => d.parameters.length) = some 1 := by decide +kernel
theorem hv_X8_holderAt : yX8_holderAt.cls = RX8 ∧ yX8_holderAt.cls ≠ "java/lang/invoke/MethodHandle" ∧ yX8_holderAt.cls ≠ "java/lang/invoke/VarHandle" ∧ (parseMethodDescriptor yX8_holderAt.desc).map (fun d => d.parameters.length) = some 1 := ⟨rfl, hd_X8_holderAt⟩
theorem hd_X8_isWithin : yX8_isWithin.cls ≠ "java/lang/invoke/MethodHandle" ∧ yX8_isWithin.cls ≠ "java/lang/invoke/VarHandle" ∧ (parseMethodDescriptor yX8_isWithin.desc).map (fun d => d.parameters.length) = some 3 := by decide +kernel
theorem hd_X8_isBase : yX8_isBase.cls ≠ "java/lang/invoke/MethodHandle" ∧ yX8_isBase.cls ≠ "java/lang/invoke/VarHandle" ∧ (parseMethodDescriptor yX8_isBase.desc).map (fun d => d.parameters.length) = some 1 := by decide +kernel
theorem hd_X8_isPrime : yX8_isPrime.cls ≠ "java/lang/invoke/MethodHandle" ∧ yX8_isPrime.cls ≠ "java/lang/invoke/VarHandle" ∧ (parseMethodDescriptor yX8_isPrime.desc).map (fun d => d.parameters.length) = some 1 := by decide +kernel
theorem hd_X8_commonDivisor : yX8_commonDivisor.cls ≠ "java/lang/invoke/MethodHandle" ∧ yX8_commonDivisor.cls ≠ "java/lang/invoke/VarHandle" ∧ (parseMethodDescriptor yX8_commonDivisor.desc).map (fun d => d.parameters.length) = some 2 := by decide +kernel
theorem hd_X8_power : yX8_power.cls ≠ "java/lang/invoke/MethodHandle" ∧ yX8_power.cls ≠ "java/lang/invoke/VarHandle" ∧ (parseMethodDescriptor yX8_power.desc).map (fun d => d.parameters.length) = some 2 := by decide +kernel
theorem hd_X8_remainder : yX8_remainder.cls ≠ "java/lang/invoke/MethodHandle" ∧ yX8_remainder.cls ≠ "java/lang/invoke/VarHandle" ∧ (parseMethodDescriptor yX8_remainder.desc).map (fun d => d.parameters.length) = some 2 := by decide +kernel
theorem hd_X8_quotient : yX8_quotient.cls ≠ "java/lang/invoke/MethodHandle" ∧ yX8_quotient.cls ≠ "java/lang/invoke/VarHandle" ∧ (parseMethodDescriptor yX8_quotient.desc).map (fun d => d.parameters.length) = some 2 := by decide +kernel
theorem hd_X8_valueAt : yX8_valueAt.cls ≠ "java/lang/invoke/MethodHandle" ∧ yX8_valueAt.cls ≠ "java/lang/invoke/VarHandle" ∧ (parseMethodDescriptor yX8_valueAt.desc).map (fun d => d.parameters.length) = some 2 := by decide +kernel
theorem hd_X8_setAt : yX8_setAt.cls ≠ "java/lang/invoke/MethodHandle" ∧ yX8_setAt.cls ≠ "java/lang/invoke/VarHandle" ∧ (parseMethodDescriptor yX8_setAt.desc).map (fun d => d.parameters.length) = some 3 := by decide +kernel
theorem hd_X9_init : yX9_init.cls ≠ "java/lang/invoke/MethodHandle" ∧ yX9_init.cls ≠ "java/lang/invoke/VarHandle" ∧ (parseMethodDescriptor yX9_init.desc).map (fun d => d.parameters.length) = some 0 := by decide +kernel
theorem hv_X9_init : yX9_init.cls = RX9 ∧ yX9_init.cls ≠ "java/lang/invoke/MethodHandle" ∧ yX9_init.cls ≠ "java/lang/invoke/VarHandle" ∧ (parseMethodDescriptor yX9_init.desc).map (fun d => d.parameters.length) = some 0 := ⟨rfl, hd_X9_init⟩
theorem hd_X9_isIn : yX9_isIn.cls ≠ "java/lang/invoke/MethodHandle" ∧ yX9_isIn.cls ≠ "java/lang/invoke/VarHandle" ∧ (parseMethodDescriptor yX9_isIn.desc).map (fun d => d.parameters.length) = some 3 := by decide +kernel
theorem hd_X9_isFraction : yX9_isFraction.cls ≠ "java/lang/invoke/MethodHandle" ∧ yX9_isFraction.cls ≠ "java/lang/invoke/VarHandle" ∧ (parseMethodDescriptor yX9_isFraction.desc).map (fun d => d.parameters.length) = some 1 := by decide +kernel
theorem hv_X9_isFraction : yX9_isFraction.cls = RX9 ∧ yX9_isFraction.cls ≠ "java/lang/invoke/MethodHandle" ∧ yX9_isFraction.cls ≠ "java/lang/invoke/VarHandle" ∧ (parseMethodDescriptor yX9_isFraction.desc).map (fun d => d.parameters.length) = some 1 := ⟨rfl, hd_X9_isFraction⟩
theorem hd_X9_isBase : yX9_isBase.cls ≠ "java/lang/invoke/MethodHandle" ∧ yX9_isBase.cls ≠ "java/lang/invoke/VarHandle" ∧ (parseMethodDescriptor yX9_isBase.desc).map (fun d => d.parameters.length) = some 1 := by decide +kernel
theorem hd_X9_divisor : yX9_divisor.cls ≠ "java/lang/invoke/MethodHandle" ∧ yX9_divisor.cls ≠ "java/lang/invoke/VarHandle" ∧ (parseMethodDescriptor yX9_divisor.desc).map (fun d => d.parameters.length) = some 2 := by decide +kernel
theorem hd_X9_looks : yX9_looks.cls ≠ "java/lang/invoke/MethodHandle" ∧ yX9_looks.cls ≠ "java/lang/invoke/VarHandle" ∧ (parseMethodDescriptor yX9_looks.desc).map (fun d => d.parameters.length) = some 3 := by decide +kernel
theorem hv_X9_looks : yX9_looks.cls = RX9 ∧ yX9_looks.cls ≠ "java/lang/invoke/MethodHandle" ∧ yX9_looks.cls ≠ "java/lang/invoke/VarHandle" ∧ (parseMethodDescriptor yX9_looks.desc).map (fun d => d.parameters.length) = some 3 := ⟨rfl, hd_X9_looks⟩
theorem hd_X9_looksAt : yX9_looksAt.cls ≠ "java/lang/invoke/MethodHandle" ∧ yX9_looksAt.cls ≠ "java/lang/invoke/VarHandle" ∧ (parseMethodDescriptor yX9_looksAt.desc).map (fun d => d.parameters.length) = some 1 := by decide +kernel
theorem hv_X9_looksAt : yX9_looksAt.cls = RX9 ∧ yX9_looksAt.cls ≠ "java/lang/invoke/MethodHandle" ∧ yX9_looksAt.cls ≠ "java/lang/invoke/VarHandle" ∧ (parseMethodDescriptor yX9_looksAt.desc).map (fun d => d.parameters.length) = some 1 := ⟨rfl, hd_X9_looksAt⟩
theorem hd_X9_kindNow : yX9_kindNow.cls ≠ "java/lang/invoke/MethodHandle" ∧ yX9_kindNow.cls ≠ "java/lang/invoke/VarHandle" ∧ (parseMethodDescriptor yX9_kindNow.desc).map (fun d => d.parameters.length) = some 0 := by decide +kernel
theorem hv_X9_kindNow : yX9_kindNow.cls = RX9 ∧ yX9_kindNow.cls ≠ "java/lang/invoke/MethodHandle" ∧ yX9_kindNow.cls ≠ "java/lang/invoke/VarHandle" ∧ (parseMethodDescriptor yX9_kindNow.desc).map (fun d => d.parameters.length) = some 0 := ⟨rfl, hd_X9_kindNow⟩
theorem hd_X9_placeOf : yX9_placeOf.cls ≠ "java/lang/invoke/MethodHandle" ∧ yX9_placeOf.cls ≠ "java/lang/invoke/VarHandle" ∧ (parseMethodDescriptor yX9_placeOf.desc).map (fun d => d.parameters.length) = some 1 := by decide +kernel
theorem hv_X9_placeOf : yX9_placeOf.cls = RX9 ∧ yX9_placeOf.cls ≠ "java/lang/invoke/MethodHandle" ∧ yX9_placeOf.cls ≠ "java/lang/invoke/VarHandle" ∧ (parseMethodDescriptor yX9_placeOf.desc).map (fun d => d.parameters.length) = some 1 := ⟨rfl, hd_X9_placeOf⟩
theorem hd_X9_comes : yX9_comes.cls ≠ "java/lang/invoke/MethodHandle" ∧ yX9_comes.cls ≠ "java/lang/invoke/VarHandle" ∧ (parseMethodDescriptor yX9_comes.desc).map (fun d => d.parameters.length) = some 3 := by decide +kernel
theorem hv_X9_comes : yX9_comes.cls = RX9 ∧ yX9_comes.cls ≠ "java/lang/invoke/MethodHandle" ∧ yX9_comes.cls ≠ "java/lang/invoke/VarHandle" ∧ (parseMethodDescriptor yX9_comes.desc).map (fun d => d.parameters.length) = some 3 := ⟨rfl, hd_X9_comes⟩
theorem hd_X9_fraction : yX9_fraction.cls ≠ "java/lang/invoke/MethodHandle" ∧ yX9_fraction.cls ≠ "java/lang/invoke/VarHandle" ∧ (parseMethodDescriptor yX9_fraction.desc).map (fun d => d.parameters.length) = some 3 := by decide +kernel
theorem hv_X9_fraction : yX9_fraction.cls = RX9 ∧ yX9_fraction.cls ≠ "java/lang/invoke/MethodHandle" ∧ yX9_fraction.cls ≠ "java/lang/invoke/VarHandle" ∧ (parseMethodDescriptor yX9_fraction.desc).map (fun d => d.parameters.length) = some 3 := ⟨rfl, hd_X9_fraction⟩
theorem hd_X9_drop : yX9_drop.cls ≠ "java/lang/invoke/MethodHandle" ∧ yX9_drop.cls ≠ "java/lang/invoke/VarHandle" ∧ (parseMethodDescriptor yX9_drop.desc).map (fun d => d.parameters.length) = some 1 := by decide +kernel
theorem hv_X9_drop : yX9_drop.cls = RX9 ∧ yX9_drop.cls ≠ "java/lang/invoke/MethodHandle" ∧ yX9_drop.cls ≠ "java/lang/invoke/VarHandle" ∧ (parseMethodDescriptor yX9_drop.desc).map (fun d => d.parameters.length) = some 1 := ⟨rfl, hd_X9_drop⟩
theorem hd_X9_multiply : yX9_multiply.cls ≠ "java/lang/invoke/MethodHandle" ∧ yX9_multiply.cls ≠ "java/lang/invoke/VarHandle" ∧ (parseMethodDescriptor yX9_multiply.desc).map (fun d => d.parameters.length) = some 2 := by decide +kernel
theorem hv_X9_multiply : yX9_multiply.cls = RX9 ∧ yX9_multiply.cls ≠ "java/lang/invoke/MethodHandle" ∧ yX9_multiply.cls ≠ "java/lang/invoke/VarHandle" ∧ (parseMethodDescriptor yX9_multiply.desc).map (fun d => d.parameters.length) = some 2 := ⟨rfl, hd_X9_multiply⟩
theorem hd_X9_comesLowest : yX9_comesLowest.cls ≠ "java/lang/invoke/MethodHandle" ∧ yX9_comesLowest.cls ≠ "java/lang/invoke/VarHandle" ∧ (parseMethodDescriptor yX9_comesLowest.desc).map (fun d => d.parameters.length) = some 3 := by decide +kernel
theorem hv_X9_comesLowest : yX9_comesLowest.cls = RX9 ∧ yX9_comesLowest.cls ≠ "java/lang/invoke/MethodHandle" ∧ yX9_comesLowest.cls ≠ "java/lang/invoke/VarHandle" ∧ (parseMethodDescriptor yX9_comesLowest.desc).map (fun d => d.parameters.length) = some 3 := ⟨rfl, hd_X9_comesLowest⟩
theorem hd_X9_sum : yX9_sum.cls ≠ "java/lang/invoke/MethodHandle" ∧ yX9_sum.cls ≠ "java/lang/invoke/VarHandle" ∧ (parseMethodDescriptor yX9_sum.desc).map (fun d => d.parameters.length) = some 2 := by decide +kernel
theorem hv_X9_sum : yX9_sum.cls = RX9 ∧ yX9_sum.cls ≠ "java/lang/invoke/MethodHandle" ∧ yX9_sum.cls ≠ "java/lang/invoke/VarHandle" ∧ (parseMethodDescriptor yX9_sum.desc).map (fun d => d.parameters.length) = some 2 := ⟨rfl, hd_X9_sum⟩
theorem hd_X9_lowest : yX9_lowest.cls ≠ "java/lang/invoke/MethodHandle" ∧ yX9_lowest.cls ≠ "java/lang/invoke/VarHandle" ∧ (parseMethodDescriptor yX9_lowest.desc).map (fun d => d.parameters.length) = some 1 := by decide +kernel
theorem hv_X9_lowest : yX9_lowest.cls = RX9 ∧ yX9_lowest.cls ≠ "java/lang/invoke/MethodHandle" ∧ yX9_lowest.cls ≠ "java/lang/invoke/VarHandle" ∧ (parseMethodDescriptor yX9_lowest.desc).map (fun d => d.parameters.length) = some 1 := ⟨rfl, hd_X9_lowest⟩
theorem hd_X9_of : yX9_of.cls ≠ "java/lang/invoke/MethodHandle" ∧ yX9_of.cls ≠ "java/lang/invoke/VarHandle" ∧ (parseMethodDescriptor yX9_of.desc).map (fun d => d.parameters.length) = some 2 := by decide +kernel
theorem hv_X9_of : yX9_of.cls = RX9 ∧ yX9_of.cls ≠ "java/lang/invoke/MethodHandle" ∧ yX9_of.cls ≠ "java/lang/invoke/VarHandle" ∧ (parseMethodDescriptor yX9_of.desc).map (fun d => d.parameters.length) = some 2 := ⟨rfl, hd_X9_of⟩
theorem hd_X9_digit : yX9_digit.cls ≠ "java/lang/invoke/MethodHandle" ∧ yX9_digit.cls ≠ "java/lang/invoke/VarHandle" ∧ (parseMethodDescriptor yX9_digit.desc).map (fun d => d.parameters.length) = some 2 := by decide +kernel
theorem hv_X9_digit : yX9_digit.cls = RX9 ∧ yX9_digit.cls ≠ "java/lang/invoke/MethodHandle" ∧ yX9_digit.cls ≠ "java/lang/invoke/VarHandle" ∧ (parseMethodDescriptor yX9_digit.desc).map (fun d => d.parameters.length) = some 2 := ⟨rfl, hd_X9_digit⟩
theorem hd_X9_rest : yX9_rest.cls ≠ "java/lang/invoke/MethodHandle" ∧ yX9_rest.cls ≠ "java/lang/invoke/VarHandle" ∧ (parseMethodDescriptor yX9_rest.desc).map (fun d => d.parameters.length) = some 2 := by decide +kernel
theorem hv_X9_rest : yX9_rest.cls = RX9 ∧ yX9_rest.cls ≠ "java/lang/invoke/MethodHandle" ∧ yX9_rest.cls ≠ "java/lang/invoke/VarHandle" ∧ (parseMethodDescriptor yX9_rest.desc).map (fun d => d.parameters.length) = some 2 := ⟨rfl, hd_X9_rest⟩
theorem hd_X9_place : yX9_place.cls ≠ "java/lang/invoke/MethodHandle" ∧ yX9_place.cls ≠ "java/lang/invoke/VarHandle" ∧ (parseMethodDescriptor yX9_place.desc).map (fun d => d.parameters.length) = some 2 := by decide +kernel
theorem hv_X9_place : yX9_place.cls = RX9 ∧ yX9_place.cls ≠ "java/lang/invoke/MethodHandle" ∧ yX9_place.cls ≠ "java/lang/invoke/VarHandle" ∧ (parseMethodDescriptor yX9_place.desc).map (fun d => d.parameters.length) = some 2 := ⟨rfl, hd_X9_place⟩
theorem hd_X9_isParted : yX9_isParted.cls ≠ "java/lang/invoke/MethodHandle" ∧ yX9_isParted.cls ≠ "java/lang/invoke/VarHandle" ∧ (parseMethodDescriptor yX9_isParted.desc).map (fun d => d.parameters.length) = some 1 := by decide +kernel
theorem hv_X9_isParted : yX9_isParted.cls = RX9 ∧ yX9_isParted.cls ≠ "java/lang/invoke/MethodHandle" ∧ yX9_isParted.cls ≠ "java/lang/invoke/VarHandle" ∧ (parseMethodDescriptor yX9_isParted.desc).map (fun d => d.parameters.length) = some 1 := ⟨rfl, hd_X9_isParted⟩
theorem hd_X9_blocks : yX9_blocks.cls ≠ "java/lang/invoke/MethodHandle" ∧ yX9_blocks.cls ≠ "java/lang/invoke/VarHandle" ∧ (parseMethodDescriptor yX9_blocks.desc).map (fun d => d.parameters.length) = some 2 := by decide +kernel
theorem hv_X9_blocks : yX9_blocks.cls = RX9 ∧ yX9_blocks.cls ≠ "java/lang/invoke/MethodHandle" ∧ yX9_blocks.cls ≠ "java/lang/invoke/VarHandle" ∧ (parseMethodDescriptor yX9_blocks.desc).map (fun d => d.parameters.length) = some 2 := ⟨rfl, hd_X9_blocks⟩
theorem hd_X9_block : yX9_block.cls ≠ "java/lang/invoke/MethodHandle" ∧ yX9_block.cls ≠ "java/lang/invoke/VarHandle" ∧ (parseMethodDescriptor yX9_block.desc).map (fun d => d.parameters.length) = some 3 := by decide +kernel
theorem hv_X9_block : yX9_block.cls = RX9 ∧ yX9_block.cls ≠ "java/lang/invoke/MethodHandle" ∧ yX9_block.cls ≠ "java/lang/invoke/VarHandle" ∧ (parseMethodDescriptor yX9_block.desc).map (fun d => d.parameters.length) = some 3 := ⟨rfl, hd_X9_block⟩
theorem hd_X9_smallNines : yX9_smallNines.cls ≠ "java/lang/invoke/MethodHandle" ∧ yX9_smallNines.cls ≠ "java/lang/invoke/VarHandle" ∧ (parseMethodDescriptor yX9_smallNines.desc).map (fun d => d.parameters.length) = some 3 := by decide +kernel
theorem hv_X9_smallNines : yX9_smallNines.cls = RX9 ∧ yX9_smallNines.cls ≠ "java/lang/invoke/MethodHandle" ∧ yX9_smallNines.cls ≠ "java/lang/invoke/VarHandle" ∧ (parseMethodDescriptor yX9_smallNines.desc).map (fun d => d.parameters.length) = some 3 := ⟨rfl, hd_X9_smallNines⟩
theorem hd_X9_greatNines : yX9_greatNines.cls ≠ "java/lang/invoke/MethodHandle" ∧ yX9_greatNines.cls ≠ "java/lang/invoke/VarHandle" ∧ (parseMethodDescriptor yX9_greatNines.desc).map (fun d => d.parameters.length) = some 2 := by decide +kernel
theorem hv_X9_greatNines : yX9_greatNines.cls = RX9 ∧ yX9_greatNines.cls ≠ "java/lang/invoke/MethodHandle" ∧ yX9_greatNines.cls ≠ "java/lang/invoke/VarHandle" ∧ (parseMethodDescriptor yX9_greatNines.desc).map (fun d => d.parameters.length) = some 2 := ⟨rfl, hd_X9_greatNines⟩
theorem hd_X9_ninesNow : yX9_ninesNow.cls ≠ "java/lang/invoke/MethodHandle" ∧ yX9_ninesNow.cls ≠ "java/lang/invoke/VarHandle" ∧ (parseMethodDescriptor yX9_ninesNow.desc).map (fun d => d.parameters.length) = some 2 := by decide +kernel
theorem hv_X9_ninesNow : yX9_ninesNow.cls = RX9 ∧ yX9_ninesNow.cls ≠ "java/lang/invoke/MethodHandle" ∧ yX9_ninesNow.cls ≠ "java/lang/invoke/VarHandle" ∧ (parseMethodDescriptor yX9_ninesNow.desc).map (fun d => d.parameters.length) = some 2 := ⟨rfl, hd_X9_ninesNow⟩
theorem hd_X9_nines : yX9_nines.cls ≠ "java/lang/invoke/MethodHandle" ∧ yX9_nines.cls ≠ "java/lang/invoke/VarHandle" ∧ (parseMethodDescriptor yX9_nines.desc).map (fun d => d.parameters.length) = some 2 := by decide +kernel
theorem hv_X9_nines : yX9_nines.cls = RX9 ∧ yX9_nines.cls ≠ "java/lang/invoke/MethodHandle" ∧ yX9_nines.cls ≠ "java/lang/invoke/VarHandle" ∧ (parseMethodDescriptor yX9_nines.desc).map (fun d => d.parameters.length) = some 2 := ⟨rfl, hd_X9_nines⟩
theorem hd_X9_keepsRing : yX9_keepsRing.cls ≠ "java/lang/invoke/MethodHandle" ∧ yX9_keepsRing.cls ≠ "java/lang/invoke/VarHandle" ∧ (parseMethodDescriptor yX9_keepsRing.desc).map (fun d => d.parameters.length) = some 1 := by decide +kernel
theorem hv_X9_keepsRing : yX9_keepsRing.cls = RX9 ∧ yX9_keepsRing.cls ≠ "java/lang/invoke/MethodHandle" ∧ yX9_keepsRing.cls ≠ "java/lang/invoke/VarHandle" ∧ (parseMethodDescriptor yX9_keepsRing.desc).map (fun d => d.parameters.length) = some 1 := ⟨rfl, hd_X9_keepsRing⟩
theorem hd_X9_shiftNow : yX9_shiftNow.cls ≠ "java/lang/invoke/MethodHandle" ∧ yX9_shiftNow.cls ≠ "java/lang/invoke/VarHandle" ∧ (parseMethodDescriptor yX9_shiftNow.desc).map (fun d => d.parameters.length) = some 2 := by decide +kernel
theorem hv_X9_shiftNow : yX9_shiftNow.cls = RX9 ∧ yX9_shiftNow.cls ≠ "java/lang/invoke/MethodHandle" ∧ yX9_shiftNow.cls ≠ "java/lang/invoke/VarHandle" ∧ (parseMethodDescriptor yX9_shiftNow.desc).map (fun d => d.parameters.length) = some 2 := ⟨rfl, hd_X9_shiftNow⟩
theorem hd_X9_shift : yX9_shift.cls ≠ "java/lang/invoke/MethodHandle" ∧ yX9_shift.cls ≠ "java/lang/invoke/VarHandle" ∧ (parseMethodDescriptor yX9_shift.desc).map (fun d => d.parameters.length) = some 2 := by decide +kernel
theorem hv_X9_shift : yX9_shift.cls = RX9 ∧ yX9_shift.cls ≠ "java/lang/invoke/MethodHandle" ∧ yX9_shift.cls ≠ "java/lang/invoke/VarHandle" ∧ (parseMethodDescriptor yX9_shift.desc).map (fun d => d.parameters.length) = some 2 := ⟨rfl, hd_X9_shift⟩
theorem hd_X9_multiple : yX9_multiple.cls ≠ "java/lang/invoke/MethodHandle" ∧ yX9_multiple.cls ≠ "java/lang/invoke/VarHandle" ∧ (parseMethodDescriptor yX9_multiple.desc).map (fun d => d.parameters.length) = some 2 := by decide +kernel
theorem hv_X9_multiple : yX9_multiple.cls = RX9 ∧ yX9_multiple.cls ≠ "java/lang/invoke/MethodHandle" ∧ yX9_multiple.cls ≠ "java/lang/invoke/VarHandle" ∧ (parseMethodDescriptor yX9_multiple.desc).map (fun d => d.parameters.length) = some 2 := ⟨rfl, hd_X9_multiple⟩
theorem hd_X9_order : yX9_order.cls ≠ "java/lang/invoke/MethodHandle" ∧ yX9_order.cls ≠ "java/lang/invoke/VarHandle" ∧ (parseMethodDescriptor yX9_order.desc).map (fun d => d.parameters.length) = some 2 := by decide +kernel
theorem hv_X9_order : yX9_order.cls = RX9 ∧ yX9_order.cls ≠ "java/lang/invoke/MethodHandle" ∧ yX9_order.cls ≠ "java/lang/invoke/VarHandle" ∧ (parseMethodDescriptor yX9_order.desc).map (fun d => d.parameters.length) = some 2 := ⟨rfl, hd_X9_order⟩
theorem hd_X9_cycles : yX9_cycles.cls ≠ "java/lang/invoke/MethodHandle" ∧ yX9_cycles.cls ≠ "java/lang/invoke/VarHandle" ∧ (parseMethodDescriptor yX9_cycles.desc).map (fun d => d.parameters.length) = some 3 := by decide +kernel
theorem hv_X9_cycles : yX9_cycles.cls = RX9 ∧ yX9_cycles.cls ≠ "java/lang/invoke/MethodHandle" ∧ yX9_cycles.cls ≠ "java/lang/invoke/VarHandle" ∧ (parseMethodDescriptor yX9_cycles.desc).map (fun d => d.parameters.length) = some 3 := ⟨rfl, hd_X9_cycles⟩
theorem hd_X9_isFull : yX9_isFull.cls ≠ "java/lang/invoke/MethodHandle" ∧ yX9_isFull.cls ≠ "java/lang/invoke/VarHandle" ∧ (parseMethodDescriptor yX9_isFull.desc).map (fun d => d.parameters.length) = some 2 := by decide +kernel
theorem hv_X9_isFull : yX9_isFull.cls = RX9 ∧ yX9_isFull.cls ≠ "java/lang/invoke/MethodHandle" ∧ yX9_isFull.cls ≠ "java/lang/invoke/VarHandle" ∧ (parseMethodDescriptor yX9_isFull.desc).map (fun d => d.parameters.length) = some 2 := ⟨rfl, hd_X9_isFull⟩
theorem hd_X9_full : yX9_full.cls ≠ "java/lang/invoke/MethodHandle" ∧ yX9_full.cls ≠ "java/lang/invoke/VarHandle" ∧ (parseMethodDescriptor yX9_full.desc).map (fun d => d.parameters.length) = some 4 := by decide +kernel
theorem hv_X9_full : yX9_full.cls = RX9 ∧ yX9_full.cls ≠ "java/lang/invoke/MethodHandle" ∧ yX9_full.cls ≠ "java/lang/invoke/VarHandle" ∧ (parseMethodDescriptor yX9_full.desc).map (fun d => d.parameters.length) = some 4 := ⟨rfl, hd_X9_full⟩
theorem hd_X9_list : yX9_list.cls ≠ "java/lang/invoke/MethodHandle" ∧ yX9_list.cls ≠ "java/lang/invoke/VarHandle" ∧ (parseMethodDescriptor yX9_list.desc).map (fun d => d.parameters.length) = some 2 := by decide +kernel
theorem hv_X9_list : yX9_list.cls = RX9 ∧ yX9_list.cls ≠ "java/lang/invoke/MethodHandle" ∧ yX9_list.cls ≠ "java/lang/invoke/VarHandle" ∧ (parseMethodDescriptor yX9_list.desc).map (fun d => d.parameters.length) = some 2 := ⟨rfl, hd_X9_list⟩
theorem hd_X9_isPrime : yX9_isPrime.cls ≠ "java/lang/invoke/MethodHandle" ∧ yX9_isPrime.cls ≠ "java/lang/invoke/VarHandle" ∧ (parseMethodDescriptor yX9_isPrime.desc).map (fun d => d.parameters.length) = some 1 := by decide +kernel
theorem hd_X9_isSo : yX9_isSo.cls ≠ "java/lang/invoke/MethodHandle" ∧ yX9_isSo.cls ≠ "java/lang/invoke/VarHandle" ∧ (parseMethodDescriptor yX9_isSo.desc).map (fun d => d.parameters.length) = some 2 := by decide +kernel
theorem hv_X9_isSo : yX9_isSo.cls = RX9 ∧ yX9_isSo.cls ≠ "java/lang/invoke/MethodHandle" ∧ yX9_isSo.cls ≠ "java/lang/invoke/VarHandle" ∧ (parseMethodDescriptor yX9_isSo.desc).map (fun d => d.parameters.length) = some 2 := ⟨rfl, hd_X9_isSo⟩
theorem hd_X9_listed : yX9_listed.cls ≠ "java/lang/invoke/MethodHandle" ∧ yX9_listed.cls ≠ "java/lang/invoke/VarHandle" ∧ (parseMethodDescriptor yX9_listed.desc).map (fun d => d.parameters.length) = some 1 := by decide +kernel
theorem hv_X9_listed : yX9_listed.cls = RX9 ∧ yX9_listed.cls ≠ "java/lang/invoke/MethodHandle" ∧ yX9_listed.cls ≠ "java/lang/invoke/VarHandle" ∧ (parseMethodDescriptor yX9_listed.desc).map (fun d => d.parameters.length) = some 1 := ⟨rfl, hd_X9_listed⟩
theorem hd_X9_worth : yX9_worth.cls ≠ "java/lang/invoke/MethodHandle" ∧ yX9_worth.cls ≠ "java/lang/invoke/VarHandle" ∧ (parseMethodDescriptor yX9_worth.desc).map (fun d => d.parameters.length) = some 4 := by decide +kernel
theorem hd_X9_tells : yX9_tells.cls ≠ "java/lang/invoke/MethodHandle" ∧ yX9_tells.cls ≠ "java/lang/invoke/VarHandle" ∧ (parseMethodDescriptor yX9_tells.desc).map (fun d => d.parameters.length) = some 3 := by decide +kernel
theorem hv_X9_tells : yX9_tells.cls = RX9 ∧ yX9_tells.cls ≠ "java/lang/invoke/MethodHandle" ∧ yX9_tells.cls ≠ "java/lang/invoke/VarHandle" ∧ (parseMethodDescriptor yX9_tells.desc).map (fun d => d.parameters.length) = some 3 := ⟨rfl, hd_X9_tells⟩
theorem hd_X9_feed : yX9_feed.cls ≠ "java/lang/invoke/MethodHandle" ∧ yX9_feed.cls ≠ "java/lang/invoke/VarHandle" ∧ (parseMethodDescriptor yX9_feed.desc).map (fun d => d.parameters.length) = some 2 := by decide +kernel
theorem hv_X9_feed : yX9_feed.cls = RX9 ∧ yX9_feed.cls ≠ "java/lang/invoke/MethodHandle" ∧ yX9_feed.cls ≠ "java/lang/invoke/VarHandle" ∧ (parseMethodDescriptor yX9_feed.desc).map (fun d => d.parameters.length) = some 2 := ⟨rfl, hd_X9_feed⟩
theorem hd_X9_wipe : yX9_wipe.cls ≠ "java/lang/invoke/MethodHandle" ∧ yX9_wipe.cls ≠ "java/lang/invoke/VarHandle" ∧ (parseMethodDescriptor yX9_wipe.desc).map (fun d => d.parameters.length) = some 0 := by decide +kernel
theorem hv_X9_wipe : yX9_wipe.cls = RX9 ∧ yX9_wipe.cls ≠ "java/lang/invoke/MethodHandle" ∧ yX9_wipe.cls ≠ "java/lang/invoke/VarHandle" ∧ (parseMethodDescriptor yX9_wipe.desc).map (fun d => d.parameters.length) = some 0 := ⟨rfl, hd_X9_wipe⟩
theorem hd_X9_isAt : yX9_isAt.cls ≠ "java/lang/invoke/MethodHandle" ∧ yX9_isAt.cls ≠ "java/lang/invoke/VarHandle" ∧ (parseMethodDescriptor yX9_isAt.desc).map (fun d => d.parameters.length) = some 2 := by decide +kernel
theorem hv_X9_isAt : yX9_isAt.cls = RX9 ∧ yX9_isAt.cls ≠ "java/lang/invoke/MethodHandle" ∧ yX9_isAt.cls ≠ "java/lang/invoke/VarHandle" ∧ (parseMethodDescriptor yX9_isAt.desc).map (fun d => d.parameters.length) = some 2 := ⟨rfl, hd_X9_isAt⟩
theorem hd_X9_wordOf : yX9_wordOf.cls ≠ "java/lang/invoke/MethodHandle" ∧ yX9_wordOf.cls ≠ "java/lang/invoke/VarHandle" ∧ (parseMethodDescriptor yX9_wordOf.desc).map (fun d => d.parameters.length) = some 2 := by decide +kernel
theorem hv_X9_wordOf : yX9_wordOf.cls = RX9 ∧ yX9_wordOf.cls ≠ "java/lang/invoke/MethodHandle" ∧ yX9_wordOf.cls ≠ "java/lang/invoke/VarHandle" ∧ (parseMethodDescriptor yX9_wordOf.desc).map (fun d => d.parameters.length) = some 2 := ⟨rfl, hd_X9_wordOf⟩
theorem hd_X9_commandOf : yX9_commandOf.cls ≠ "java/lang/invoke/MethodHandle" ∧ yX9_commandOf.cls ≠ "java/lang/invoke/VarHandle" ∧ (parseMethodDescriptor yX9_commandOf.desc).map (fun d => d.parameters.length) = some 2 := by decide +kernel
theorem hv_X9_commandOf : yX9_commandOf.cls = RX9 ∧ yX9_commandOf.cls ≠ "java/lang/invoke/MethodHandle" ∧ yX9_commandOf.cls ≠ "java/lang/invoke/VarHandle" ∧ (parseMethodDescriptor yX9_commandOf.desc).map (fun d => d.parameters.length) = some 2 := ⟨rfl, hd_X9_commandOf⟩
theorem hd_X9_thin : yX9_thin.cls ≠ "java/lang/invoke/MethodHandle" ∧ yX9_thin.cls ≠ "java/lang/invoke/VarHandle" ∧ (parseMethodDescriptor yX9_thin.desc).map (fun d => d.parameters.length) = some 0 := by decide +kernel
theorem hv_X9_thin : yX9_thin.cls = RX9 ∧ yX9_thin.cls ≠ "java/lang/invoke/MethodHandle" ∧ yX9_thin.cls ≠ "java/lang/invoke/VarHandle" ∧ (parseMethodDescriptor yX9_thin.desc).map (fun d => d.parameters.length) = some 0 := ⟨rfl, hd_X9_thin⟩
theorem hd_X9_signOf : yX9_signOf.cls ≠ "java/lang/invoke/MethodHandle" ∧ yX9_signOf.cls ≠ "java/lang/invoke/VarHandle" ∧ (parseMethodDescriptor yX9_signOf.desc).map (fun d => d.parameters.length) = some 1 := by decide +kernel
theorem hd_X9_wholeSize : yX9_wholeSize.cls ≠ "java/lang/invoke/MethodHandle" ∧ yX9_wholeSize.cls ≠ "java/lang/invoke/VarHandle" ∧ (parseMethodDescriptor yX9_wholeSize.desc).map (fun d => d.parameters.length) = some 1 := by decide +kernel
theorem hv_X9_wholeSize : yX9_wholeSize.cls = RX9 ∧ yX9_wholeSize.cls ≠ "java/lang/invoke/MethodHandle" ∧ yX9_wholeSize.cls ≠ "java/lang/invoke/VarHandle" ∧ (parseMethodDescriptor yX9_wholeSize.desc).map (fun d => d.parameters.length) = some 1 := ⟨rfl, hd_X9_wholeSize⟩
theorem hd_X9_wholeDigit : yX9_wholeDigit.cls ≠ "java/lang/invoke/MethodHandle" ∧ yX9_wholeDigit.cls ≠ "java/lang/invoke/VarHandle" ∧ (parseMethodDescriptor yX9_wholeDigit.desc).map (fun d => d.parameters.length) = some 2 := by decide +kernel
theorem hv_X9_wholeDigit : yX9_wholeDigit.cls = RX9 ∧ yX9_wholeDigit.cls ≠ "java/lang/invoke/MethodHandle" ∧ yX9_wholeDigit.cls ≠ "java/lang/invoke/VarHandle" ∧ (parseMethodDescriptor yX9_wholeDigit.desc).map (fun d => d.parameters.length) = some 2 := ⟨rfl, hd_X9_wholeDigit⟩
theorem hd_X9_spell : yX9_spell.cls ≠ "java/lang/invoke/MethodHandle" ∧ yX9_spell.cls ≠ "java/lang/invoke/VarHandle" ∧ (parseMethodDescriptor yX9_spell.desc).map (fun d => d.parameters.length) = some 2 := by decide +kernel
theorem hv_X9_spell : yX9_spell.cls = RX9 ∧ yX9_spell.cls ≠ "java/lang/invoke/MethodHandle" ∧ yX9_spell.cls ≠ "java/lang/invoke/VarHandle" ∧ (parseMethodDescriptor yX9_spell.desc).map (fun d => d.parameters.length) = some 2 := ⟨rfl, hd_X9_spell⟩
theorem hd_X9_digitAt : yX9_digitAt.cls ≠ "java/lang/invoke/MethodHandle" ∧ yX9_digitAt.cls ≠ "java/lang/invoke/VarHandle" ∧ (parseMethodDescriptor yX9_digitAt.desc).map (fun d => d.parameters.length) = some 0 := by decide +kernel
theorem hv_X9_digitAt : yX9_digitAt.cls = RX9 ∧ yX9_digitAt.cls ≠ "java/lang/invoke/MethodHandle" ∧ yX9_digitAt.cls ≠ "java/lang/invoke/VarHandle" ∧ (parseMethodDescriptor yX9_digitAt.desc).map (fun d => d.parameters.length) = some 0 := ⟨rfl, hd_X9_digitAt⟩
theorem hd_X9_readsDigits : yX9_readsDigits.cls ≠ "java/lang/invoke/MethodHandle" ∧ yX9_readsDigits.cls ≠ "java/lang/invoke/VarHandle" ∧ (parseMethodDescriptor yX9_readsDigits.desc).map (fun d => d.parameters.length) = some 1 := by decide +kernel
theorem hv_X9_readsDigits : yX9_readsDigits.cls = RX9 ∧ yX9_readsDigits.cls ≠ "java/lang/invoke/MethodHandle" ∧ yX9_readsDigits.cls ≠ "java/lang/invoke/VarHandle" ∧ (parseMethodDescriptor yX9_readsDigits.desc).map (fun d => d.parameters.length) = some 1 := ⟨rfl, hd_X9_readsDigits⟩
theorem hd_X9_isNumeral : yX9_isNumeral.cls ≠ "java/lang/invoke/MethodHandle" ∧ yX9_isNumeral.cls ≠ "java/lang/invoke/VarHandle" ∧ (parseMethodDescriptor yX9_isNumeral.desc).map (fun d => d.parameters.length) = some 1 := by decide +kernel
theorem hv_X9_isNumeral : yX9_isNumeral.cls = RX9 ∧ yX9_isNumeral.cls ≠ "java/lang/invoke/MethodHandle" ∧ yX9_isNumeral.cls ≠ "java/lang/invoke/VarHandle" ∧ (parseMethodDescriptor yX9_isNumeral.desc).map (fun d => d.parameters.length) = some 1 := ⟨rfl, hd_X9_isNumeral⟩
theorem hd_X9_read : yX9_read.cls ≠ "java/lang/invoke/MethodHandle" ∧ yX9_read.cls ≠ "java/lang/invoke/VarHandle" ∧ (parseMethodDescriptor yX9_read.desc).map (fun d => d.parameters.length) = some 1 := by decide +kernel
theorem hv_X9_read : yX9_read.cls = RX9 ∧ yX9_read.cls ≠ "java/lang/invoke/MethodHandle" ∧ yX9_read.cls ≠ "java/lang/invoke/VarHandle" ∧ (parseMethodDescriptor yX9_read.desc).map (fun d => d.parameters.length) = some 1 := ⟨rfl, hd_X9_read⟩
theorem hd_X9_numbersOf : yX9_numbersOf.cls ≠ "java/lang/invoke/MethodHandle" ∧ yX9_numbersOf.cls ≠ "java/lang/invoke/VarHandle" ∧ (parseMethodDescriptor yX9_numbersOf.desc).map (fun d => d.parameters.length) = some 1 := by decide +kernel
theorem hd_X9_command : yX9_command.cls ≠ "java/lang/invoke/MethodHandle" ∧ yX9_command.cls ≠ "java/lang/invoke/VarHandle" ∧ (parseMethodDescriptor yX9_command.desc).map (fun d => d.parameters.length) = some 0 := by decide +kernel
theorem hv_X9_command : yX9_command.cls = RX9 ∧ yX9_command.cls ≠ "java/lang/invoke/MethodHandle" ∧ yX9_command.cls ≠ "java/lang/invoke/VarHandle" ∧ (parseMethodDescriptor yX9_command.desc).map (fun d => d.parameters.length) = some 0 := ⟨rfl, hd_X9_command⟩
theorem hd_X9_done : yX9_done.cls ≠ "java/lang/invoke/MethodHandle" ∧ yX9_done.cls ≠ "java/lang/invoke/VarHandle" ∧ (parseMethodDescriptor yX9_done.desc).map (fun d => d.parameters.length) = some 1 := by decide +kernel
theorem hv_X9_done : yX9_done.cls = RX9 ∧ yX9_done.cls ≠ "java/lang/invoke/MethodHandle" ∧ yX9_done.cls ≠ "java/lang/invoke/VarHandle" ∧ (parseMethodDescriptor yX9_done.desc).map (fun d => d.parameters.length) = some 1 := ⟨rfl, hd_X9_done⟩
theorem hd_X9_run : yX9_run.cls ≠ "java/lang/invoke/MethodHandle" ∧ yX9_run.cls ≠ "java/lang/invoke/VarHandle" ∧ (parseMethodDescriptor yX9_run.desc).map (fun d => d.parameters.length) = some 0 := by decide +kernel
theorem hv_X9_run : yX9_run.cls = RX9 ∧ yX9_run.cls ≠ "java/lang/invoke/MethodHandle" ∧ yX9_run.cls ≠ "java/lang/invoke/VarHandle" ∧ (parseMethodDescriptor yX9_run.desc).map (fun d => d.parameters.length) = some 0 := ⟨rfl, hd_X9_run⟩
theorem hd_X9_isHolder : yX9_isHolder.cls ≠ "java/lang/invoke/MethodHandle" ∧ yX9_isHolder.cls ≠ "java/lang/invoke/VarHandle" ∧ (parseMethodDescriptor yX9_isHolder.desc).map (fun d => d.parameters.length) = some 1 := by decide +kernel
theorem hd_X9_looksHeld : yX9_looksHeld.cls ≠ "java/lang/invoke/MethodHandle" ∧ yX9_looksHeld.cls ≠ "java/lang/invoke/VarHandle" ∧ (parseMethodDescriptor yX9_looksHeld.desc).map (fun d => d.parameters.length) = some 1 := by decide +kernel
theorem hv_X9_looksHeld : yX9_looksHeld.cls = RX9 ∧ yX9_looksHeld.cls ≠ "java/lang/invoke/MethodHandle" ∧ yX9_looksHeld.cls ≠ "java/lang/invoke/VarHandle" ∧ (parseMethodDescriptor yX9_looksHeld.desc).map (fun d => d.parameters.length) = some 1 := ⟨rfl, hd_X9_looksHeld⟩
theorem hd_X9_hold : yX9_hold.cls ≠ "java/lang/invoke/MethodHandle" ∧ yX9_hold.cls ≠ "java/lang/invoke/VarHandle" ∧ (parseMethodDescriptor yX9_hold.desc).map (fun d => d.parameters.length) = some 2 := by decide +kernel
theorem hv_X9_hold : yX9_hold.cls = RX9 ∧ yX9_hold.cls ≠ "java/lang/invoke/MethodHandle" ∧ yX9_hold.cls ≠ "java/lang/invoke/VarHandle" ∧ (parseMethodDescriptor yX9_hold.desc).map (fun d => d.parameters.length) = some 2 := ⟨rfl, hd_X9_hold⟩
theorem hd_X9_lose : yX9_lose.cls ≠ "java/lang/invoke/MethodHandle" ∧ yX9_lose.cls ≠ "java/lang/invoke/VarHandle" ∧ (parseMethodDescriptor yX9_lose.desc).map (fun d => d.parameters.length) = some 1 := by decide +kernel
theorem hv_X9_lose : yX9_lose.cls = RX9 ∧ yX9_lose.cls ≠ "java/lang/invoke/MethodHandle" ∧ yX9_lose.cls ≠ "java/lang/invoke/VarHandle" ∧ (parseMethodDescriptor yX9_lose.desc).map (fun d => d.parameters.length) = some 1 := ⟨rfl, hd_X9_lose⟩
theorem hd_X9_whyNot : yX9_whyNot.cls ≠ "java/lang/invoke/MethodHandle" ∧ yX9_whyNot.cls ≠ "java/lang/invoke/VarHandle" ∧ (parseMethodDescriptor yX9_whyNot.desc).map (fun d => d.parameters.length) = some 2 := by decide +kernel
theorem hv_X9_whyNot : yX9_whyNot.cls = RX9 ∧ yX9_whyNot.cls ≠ "java/lang/invoke/MethodHandle" ∧ yX9_whyNot.cls ≠ "java/lang/invoke/VarHandle" ∧ (parseMethodDescriptor yX9_whyNot.desc).map (fun d => d.parameters.length) = some 2 := ⟨rfl, hd_X9_whyNot⟩
theorem hd_X9_taken : yX9_taken.cls ≠ "java/lang/invoke/MethodHandle" ∧ yX9_taken.cls ≠ "java/lang/invoke/VarHandle" ∧ (parseMethodDescriptor yX9_taken.desc).map (fun d => d.parameters.length) = some 2 := by decide +kernel
theorem hv_X9_taken : yX9_taken.cls = RX9 ∧ yX9_taken.cls ≠ "java/lang/invoke/MethodHandle" ∧ yX9_taken.cls ≠ "java/lang/invoke/VarHandle" ∧ (parseMethodDescriptor yX9_taken.desc).map (fun d => d.parameters.length) = some 2 := ⟨rfl, hd_X9_taken⟩
theorem hd_X9_was : yX9_was.cls ≠ "java/lang/invoke/MethodHandle" ∧ yX9_was.cls ≠ "java/lang/invoke/VarHandle" ∧ (parseMethodDescriptor yX9_was.desc).map (fun d => d.parameters.length) = some 2 := by decide +kernel
theorem hv_X9_was : yX9_was.cls = RX9 ∧ yX9_was.cls ≠ "java/lang/invoke/MethodHandle" ∧ yX9_was.cls ≠ "java/lang/invoke/VarHandle" ∧ (parseMethodDescriptor yX9_was.desc).map (fun d => d.parameters.length) = some 2 := ⟨rfl, hd_X9_was⟩
theorem hd_X9_row : yX9_row.cls ≠ "java/lang/invoke/MethodHandle" ∧ yX9_row.cls ≠ "java/lang/invoke/VarHandle" ∧ (parseMethodDescriptor yX9_row.desc).map (fun d => d.parameters.length) = some 2 := by decide +kernel
theorem hv_X9_row : yX9_row.cls = RX9 ∧ yX9_row.cls ≠ "java/lang/invoke/MethodHandle" ∧ yX9_row.cls ≠ "java/lang/invoke/VarHandle" ∧ (parseMethodDescriptor yX9_row.desc).map (fun d => d.parameters.length) = some 2 := ⟨rfl, hd_X9_row⟩
theorem hd_X9_put : yX9_put.cls ≠ "java/lang/invoke/MethodHandle" ∧ yX9_put.cls ≠ "java/lang/invoke/VarHandle" ∧ (parseMethodDescriptor yX9_put.desc).map (fun d => d.parameters.length) = some 3 := by decide +kernel
theorem hv_X9_put : yX9_put.cls = RX9 ∧ yX9_put.cls ≠ "java/lang/invoke/MethodHandle" ∧ yX9_put.cls ≠ "java/lang/invoke/VarHandle" ∧ (parseMethodDescriptor yX9_put.desc).map (fun d => d.parameters.length) = some 3 := ⟨rfl, hd_X9_put⟩
theorem hd_X9_get : yX9_get.cls ≠ "java/lang/invoke/MethodHandle" ∧ yX9_get.cls ≠ "java/lang/invoke/VarHandle" ∧ (parseMethodDescriptor yX9_get.desc).map (fun d => d.parameters.length) = some 2 := by decide +kernel
theorem hv_X9_get : yX9_get.cls = RX9 ∧ yX9_get.cls ≠ "java/lang/invoke/MethodHandle" ∧ yX9_get.cls ≠ "java/lang/invoke/VarHandle" ∧ (parseMethodDescriptor yX9_get.desc).map (fun d => d.parameters.length) = some 2 := ⟨rfl, hd_X9_get⟩
theorem hd_X9_judge : yX9_judge.cls ≠ "java/lang/invoke/MethodHandle" ∧ yX9_judge.cls ≠ "java/lang/invoke/VarHandle" ∧ (parseMethodDescriptor yX9_judge.desc).map (fun d => d.parameters.length) = some 2 := by decide +kernel
theorem hv_X9_judge : yX9_judge.cls = RX9 ∧ yX9_judge.cls ≠ "java/lang/invoke/MethodHandle" ∧ yX9_judge.cls ≠ "java/lang/invoke/VarHandle" ∧ (parseMethodDescriptor yX9_judge.desc).map (fun d => d.parameters.length) = some 2 := ⟨rfl, hd_X9_judge⟩
theorem hd_X9_image : yX9_image.cls ≠ "java/lang/invoke/MethodHandle" ∧ yX9_image.cls ≠ "java/lang/invoke/VarHandle" ∧ (parseMethodDescriptor yX9_image.desc).map (fun d => d.parameters.length) = some 0 := by decide +kernel
theorem hv_X9_image : yX9_image.cls = RX9 ∧ yX9_image.cls ≠ "java/lang/invoke/MethodHandle" ∧ yX9_image.cls ≠ "java/lang/invoke/VarHandle" ∧ (parseMethodDescriptor yX9_image.desc).map (fun d => d.parameters.length) = some 0 := ⟨rfl, hd_X9_image⟩
theorem hd_X9_undo : yX9_undo.cls ≠ "java/lang/invoke/MethodHandle" ∧ yX9_undo.cls ≠ "java/lang/invoke/VarHandle" ∧ (parseMethodDescriptor yX9_undo.desc).map (fun d => d.parameters.length) = some 0 := by decide +kernel
theorem hv_X9_undo : yX9_undo.cls = RX9 ∧ yX9_undo.cls ≠ "java/lang/invoke/MethodHandle" ∧ yX9_undo.cls ≠ "java/lang/invoke/VarHandle" ∧ (parseMethodDescriptor yX9_undo.desc).map (fun d => d.parameters.length) = some 0 := ⟨rfl, hd_X9_undo⟩
theorem hd_X9_count : yX9_count.cls ≠ "java/lang/invoke/MethodHandle" ∧ yX9_count.cls ≠ "java/lang/invoke/VarHandle" ∧ (parseMethodDescriptor yX9_count.desc).map (fun d => d.parameters.length) = some 1 := by decide +kernel
theorem hv_X9_count : yX9_count.cls = RX9 ∧ yX9_count.cls ≠ "java/lang/invoke/MethodHandle" ∧ yX9_count.cls ≠ "java/lang/invoke/VarHandle" ∧ (parseMethodDescriptor yX9_count.desc).map (fun d => d.parameters.length) = some 1 := ⟨rfl, hd_X9_count⟩
theorem hd_J9_max_7cf53 : yJ9_max_7cf53.cls ≠ "java/lang/invoke/MethodHandle" ∧ yJ9_max_7cf53.cls ≠ "java/lang/invoke/VarHandle" ∧ (parseMethodDescriptor yJ9_max_7cf53.desc).map (fun d => d.parameters.length) = some 2 := by decide +kernel
theorem hd_J9_min_7cf53 : yJ9_min_7cf53.cls ≠ "java/lang/invoke/MethodHandle" ∧ yJ9_min_7cf53.cls ≠ "java/lang/invoke/VarHandle" ∧ (parseMethodDescriptor yJ9_min_7cf53.desc).map (fun d => d.parameters.length) = some 2 := by decide +kernel
theorem hd_J9_min_f86c9 : yJ9_min_f86c9.cls ≠ "java/lang/invoke/MethodHandle" ∧ yJ9_min_f86c9.cls ≠ "java/lang/invoke/VarHandle" ∧ (parseMethodDescriptor yJ9_min_f86c9.desc).map (fun d => d.parameters.length) = some 2 := by decide +kernel
theorem hd_J0_length_8abf5 : yJ0_length_8abf5.cls ≠ "java/lang/invoke/MethodHandle" ∧ yJ0_length_8abf5.cls ≠ "java/lang/invoke/VarHandle" ∧ (parseMethodDescriptor yJ0_length_8abf5.desc).map (fun d => d.parameters.length) = some 0 := by decide +kernel
theorem hv_J0_length_8abf5 : yJ0_length_8abf5.cls = RJ0 ∧ yJ0_length_8abf5.cls ≠ "java/lang/invoke/MethodHandle" ∧ yJ0_length_8abf5.cls ≠ "java/lang/invoke/VarHandle" ∧ (parseMethodDescriptor yJ0_length_8abf5.desc).map (fun d => d.parameters.length) = some 0 := ⟨rfl, hd_J0_length_8abf5⟩
theorem hd_J0_charAt_5068e : yJ0_charAt_5068e.cls ≠ "java/lang/invoke/MethodHandle" ∧ yJ0_charAt_5068e.cls ≠ "java/lang/invoke/VarHandle" ∧ (parseMethodDescriptor yJ0_charAt_5068e.desc).map (fun d => d.parameters.length) = some 1 := by decide +kernel
theorem hv_J0_charAt_5068e : yJ0_charAt_5068e.cls = RJ0 ∧ yJ0_charAt_5068e.cls ≠ "java/lang/invoke/MethodHandle" ∧ yJ0_charAt_5068e.cls ≠ "java/lang/invoke/VarHandle" ∧ (parseMethodDescriptor yJ0_charAt_5068e.desc).map (fun d => d.parameters.length) = some 1 := ⟨rfl, hd_J0_charAt_5068e⟩
theorem hd_J0_coder_7d493 : yJ0_coder_7d493.cls ≠ "java/lang/invoke/MethodHandle" ∧ yJ0_coder_7d493.cls ≠ "java/lang/invoke/VarHandle" ∧ (parseMethodDescriptor yJ0_coder_7d493.desc).map (fun d => d.parameters.length) = some 0 := by decide +kernel
theorem hv_J0_coder_7d493 : yJ0_coder_7d493.cls = RJ0 ∧ yJ0_coder_7d493.cls ≠ "java/lang/invoke/MethodHandle" ∧ yJ0_coder_7d493.cls ≠ "java/lang/invoke/VarHandle" ∧ (parseMethodDescriptor yJ0_coder_7d493.desc).map (fun d => d.parameters.length) = some 0 := ⟨rfl, hd_J0_coder_7d493⟩
theorem hd_J0_isLatin1_aae02 : yJ0_isLatin1_aae02.cls ≠ "java/lang/invoke/MethodHandle" ∧ yJ0_isLatin1_aae02.cls ≠ "java/lang/invoke/VarHandle" ∧ (parseMethodDescriptor yJ0_isLatin1_aae02.desc).map (fun d => d.parameters.length) = some 0 := by decide +kernel
theorem hv_J0_isLatin1_aae02 : yJ0_isLatin1_aae02.cls = RJ0 ∧ yJ0_isLatin1_aae02.cls ≠ "java/lang/invoke/MethodHandle" ∧ yJ0_isLatin1_aae02.cls ≠ "java/lang/invoke/VarHandle" ∧ (parseMethodDescriptor yJ0_isLatin1_aae02.desc).map (fun d => d.parameters.length) = some 0 := ⟨rfl, hd_J0_isLatin1_aae02⟩
theorem hd_J0_checkIndex_df160 : yJ0_checkIndex_df160.cls ≠ "java/lang/invoke/MethodHandle" ∧ yJ0_checkIndex_df160.cls ≠ "java/lang/invoke/VarHandle" ∧ (parseMethodDescriptor yJ0_checkIndex_df160.desc).map (fun d => d.parameters.length) = some 2 := by decide +kernel
theorem hd_J1_charAt_3b067 : yJ1_charAt_3b067.cls ≠ "java/lang/invoke/MethodHandle" ∧ yJ1_charAt_3b067.cls ≠ "java/lang/invoke/VarHandle" ∧ (parseMethodDescriptor yJ1_charAt_3b067.desc).map (fun d => d.parameters.length) = some 2 := by decide +kernel
theorem hd_J2_getChar_3b067 : yJ2_getChar_3b067.cls ≠ "java/lang/invoke/MethodHandle" ∧ yJ2_getChar_3b067.cls ≠ "java/lang/invoke/VarHandle" ∧ (parseMethodDescriptor yJ2_getChar_3b067.desc).map (fun d => d.parameters.length) = some 2 := by decide +kernel
theorem hd_J2_length_9d52b : yJ2_length_9d52b.cls ≠ "java/lang/invoke/MethodHandle" ∧ yJ2_length_9d52b.cls ≠ "java/lang/invoke/VarHandle" ∧ (parseMethodDescriptor yJ2_length_9d52b.desc).map (fun d => d.parameters.length) = some 1 := by decide +kernel
theorem hd_J2_charAt_3b067 : yJ2_charAt_3b067.cls ≠ "java/lang/invoke/MethodHandle" ∧ yJ2_charAt_3b067.cls ≠ "java/lang/invoke/VarHandle" ∧ (parseMethodDescriptor yJ2_charAt_3b067.desc).map (fun d => d.parameters.length) = some 2 := by decide +kernel
theorem hd_J2_checkIndex_2214a : yJ2_checkIndex_2214a.cls ≠ "java/lang/invoke/MethodHandle" ∧ yJ2_checkIndex_2214a.cls ≠ "java/lang/invoke/VarHandle" ∧ (parseMethodDescriptor yJ2_checkIndex_2214a.desc).map (fun d => d.parameters.length) = some 2 := by decide +kernel
theorem hd_J3_checkIndex_8e157 : yJ3_checkIndex_8e157.cls ≠ "java/lang/invoke/MethodHandle" ∧ yJ3_checkIndex_8e157.cls ≠ "java/lang/invoke/VarHandle" ∧ (parseMethodDescriptor yJ3_checkIndex_8e157.desc).map (fun d => d.parameters.length) = some 3 := by decide +kernel
