/-- every word that a reader of steady words carries, one list for all methods -/
def ALL : List Cond := lw_tbl.filter goodWord
theorem al_in {w : Cond} (h : w ∈ lw_tbl) (g : goodWord w = true) : w ∈ ALL := List.mem_filter.mpr ⟨h, g⟩
theorem al_tbl {w : Cond} (h : w ∈ ALL) : w ∈ lw_tbl := (List.mem_filter.mp h).1
theorem al_p {w : Cond} (h : w ∈ k2_sels lw_privs) : w ∈ lw_tbl := List.mem_append_left _ h
theorem al_1 {w : Cond} (h : w ∈ tables_1_1) : w ∈ lw_tbl := List.mem_append_right _ (List.mem_append_left _ h)
theorem al_2 {w : Cond} (h : w ∈ tables_1_2) : w ∈ lw_tbl := List.mem_append_right _ (List.mem_append_right _ (List.mem_append_left _ h))
theorem al_3 {w : Cond} (h : w ∈ tables_1_3) : w ∈ lw_tbl := List.mem_append_right _ (List.mem_append_right _ (List.mem_append_right _ (List.mem_append_left _ h)))
theorem al_4 {w : Cond} (h : w ∈ tables_1_4) : w ∈ lw_tbl := List.mem_append_right _ (List.mem_append_right _ (List.mem_append_right _ (List.mem_append_right _ (List.mem_append_left _ h))))
theorem al_5 {w : Cond} (h : w ∈ tables_1_5) : w ∈ lw_tbl := List.mem_append_right _ (List.mem_append_right _ (List.mem_append_right _ (List.mem_append_right _ (List.mem_append_right _ h))))
theorem m_0 : Cond.code yX6_init cX6_init 2 none ∈ ALL := al_in (al_1 (List.mem_of_getElem? (i := 205) rfl)) rfl
theorem m_1 : Cond.methodLink RX6 3 objectInit ∈ ALL := al_in (al_1 (List.mem_of_getElem? (i := 206) (by decide +kernel))) (by decide +kernel)
theorem m_2 : Cond.instanceMethod objectInit ∈ ALL := al_in (al_1 (List.mem_of_getElem? (i := 27) (by decide +kernel))) (by decide +kernel)
theorem m_3 : Cond.code objectInit ⟨#[0xb1]⟩ 1 none ∈ ALL := al_in (al_1 (List.mem_of_getElem? (i := 28) rfl)) rfl
theorem m_4 : Cond.fieldLink RX6 9 "SeaJar$Plain" "temper" "I" ∈ ALL := al_in (al_1 (List.mem_of_getElem? (i := 207) (by decide +kernel))) (by decide +kernel)
theorem m_5 : Cond.code yX0_init cX0_init 2 none ∈ ALL := al_in (al_1 (List.mem_of_getElem? (i := 202) rfl)) rfl
theorem m_6 : Cond.methodLink RX0 3 yX6_init ∈ ALL := al_in (al_1 (List.mem_of_getElem? (i := 203) (by decide +kernel))) (by decide +kernel)
theorem m_7 : Cond.instanceMethod yX6_init ∈ ALL := al_in (al_1 (List.mem_of_getElem? (i := 204) (by decide +kernel))) (by decide +kernel)
theorem m_8 : Cond.initialized RX6 ∈ ALL := al_in (al_1 (List.mem_of_getElem? (i := 7) (by decide +kernel))) (by decide +kernel)
theorem m_9 : Cond.code yX0_kind cX0_kind 1 (some .int) ∈ ALL := al_in (al_2 (List.mem_of_getElem? (i := 43) rfl)) rfl
theorem m_10 : Cond.code yX6_words cX6_words 6 (some .int) ∈ ALL := al_in (al_2 (List.mem_of_getElem? (i := 90) rfl)) rfl
theorem m_11 : Cond.code yX0_words cX0_words 5 (some .int) ∈ ALL := al_in (al_2 (List.mem_of_getElem? (i := 77) rfl)) rfl
theorem m_12 : Cond.methodLink RX0 13 Lib.Math.min.name ∈ ALL := al_in (al_2 (List.mem_of_getElem? (i := 79) (by decide +kernel))) (by decide +kernel)
theorem m_13 : Cond.static Lib.Math.min.name ∈ ALL := al_in (al_2 (List.mem_of_getElem? (i := 80) (by decide +kernel))) (by decide +kernel)
theorem m_14 : Cond.initialized "java/lang/Math" ∈ ALL := al_in (al_1 (List.mem_of_getElem? (i := 14) (by decide +kernel))) (by decide +kernel)
theorem m_15 : Cond.code Lib.Math.min.name Lib.Math.min.code 2 (some .int) ∈ ALL := al_in (al_2 (List.mem_of_getElem? (i := 81) rfl)) rfl
theorem m_16 : Cond.methodLink RX0 9 yX6_words ∈ ALL := al_in (al_2 (List.mem_of_getElem? (i := 78) (by decide +kernel))) (by decide +kernel)
theorem m_17 : Cond.sameMethod "SeaJar$Plain" "SeaJar$Plain" "words" "(IIII)I" ∈ ALL := al_in (al_2 (List.mem_of_getElem? (i := 74) (by decide +kernel))) (by decide +kernel)
theorem m_18 : Cond.superclass RX0 RX6 ∈ ALL := al_in (al_1 (List.mem_of_getElem? (i := 211) (by decide +kernel))) (by decide +kernel)
theorem m_19 : Cond.instanceMethod yX6_words ∈ ALL := al_in (al_2 (List.mem_of_getElem? (i := 72) (by decide +kernel))) (by decide +kernel)
theorem m_20 : Cond.code yX0_pays cX0_pays 3 (some .int) ∈ ALL := al_in (al_2 (List.mem_of_getElem? (i := 102) rfl)) rfl
theorem m_21 : Cond.code yX0_habitThen cX0_habitThen 3 (some .int) ∈ ALL := al_in (al_2 (List.mem_of_getElem? (i := 125) rfl)) rfl
theorem m_22 : Cond.code yX1_init cX1_init 2 none ∈ ALL := al_in (al_2 (List.mem_of_getElem? (i := 0) rfl)) rfl
theorem m_23 : Cond.methodLink RX1 3 yX6_init ∈ ALL := al_in (al_2 (List.mem_of_getElem? (i := 1) (by decide +kernel))) (by decide +kernel)
theorem m_24 : Cond.code yX1_kind cX1_kind 1 (some .int) ∈ ALL := al_in (al_2 (List.mem_of_getElem? (i := 46) rfl)) rfl
theorem m_25 : Cond.code yX1_isChild cX1_isChild 1 (some .boolean) ∈ ALL := al_in (al_2 (List.mem_of_getElem? (i := 20) rfl)) rfl
theorem m_26 : Cond.code yX1_words cX1_words 5 (some .int) ∈ ALL := al_in (al_2 (List.mem_of_getElem? (i := 84) rfl)) rfl
theorem m_27 : Cond.code yX2_init cX2_init 2 none ∈ ALL := al_in (al_1 (List.mem_of_getElem? (i := 216) rfl)) rfl
theorem m_28 : Cond.methodLink RX2 3 yX6_init ∈ ALL := al_in (al_1 (List.mem_of_getElem? (i := 217) (by decide +kernel))) (by decide +kernel)
theorem m_29 : Cond.code yX2_kind cX2_kind 1 (some .int) ∈ ALL := al_in (al_2 (List.mem_of_getElem? (i := 49) rfl)) rfl
theorem m_30 : Cond.code yX6_pays cX6_pays 3 (some .int) ∈ ALL := al_in (al_2 (List.mem_of_getElem? (i := 113) rfl)) rfl
theorem m_31 : Cond.code yX2_pays cX2_pays 3 (some .int) ∈ ALL := al_in (al_2 (List.mem_of_getElem? (i := 106) rfl)) rfl
theorem m_32 : Cond.methodLink RX2 9 yX6_pays ∈ ALL := al_in (al_2 (List.mem_of_getElem? (i := 107) (by decide +kernel))) (by decide +kernel)
theorem m_33 : Cond.sameMethod "SeaJar$Plain" "SeaJar$Plain" "pays" "(II)I" ∈ ALL := al_in (al_2 (List.mem_of_getElem? (i := 99) (by decide +kernel))) (by decide +kernel)
theorem m_34 : Cond.superclass RX2 RX6 ∈ ALL := al_in (al_1 (List.mem_of_getElem? (i := 219) (by decide +kernel))) (by decide +kernel)
theorem m_35 : Cond.instanceMethod yX6_pays ∈ ALL := al_in (al_2 (List.mem_of_getElem? (i := 97) (by decide +kernel))) (by decide +kernel)
theorem m_36 : Cond.code yX3_init cX3_init 1 none ∈ ALL := al_in (al_1 (List.mem_of_getElem? (i := 33) rfl)) rfl
theorem m_37 : Cond.methodLink RX3 3 objectInit ∈ ALL := al_in (al_1 (List.mem_of_getElem? (i := 34) (by decide +kernel))) (by decide +kernel)
theorem m_38 : Cond.classLink RX3 9 RX6 ∈ ALL := al_in (al_1 (List.mem_of_getElem? (i := 35) (by decide +kernel))) (by decide +kernel)
theorem m_39 : Cond.fieldLink RX3 11 "SeaJar$House" "people" "[LSeaJar$Plain;" ∈ ALL := al_in (al_1 (List.mem_of_getElem? (i := 37) (by decide +kernel))) (by decide +kernel)
theorem m_40 : Cond.arrayClass .int ∈ ALL := al_in (al_1 (List.mem_of_getElem? (i := 89) (by decide +kernel))) (by decide +kernel)
theorem m_41 : Cond.fieldLink RX3 17 "SeaJar$House" "habits" "[I" ∈ ALL := al_in (al_1 (List.mem_of_getElem? (i := 39) (by decide +kernel))) (by decide +kernel)
theorem m_42 : Cond.fieldLink RX3 21 "SeaJar$House" "size" "I" ∈ ALL := al_in (al_1 (List.mem_of_getElem? (i := 42) (by decide +kernel))) (by decide +kernel)
theorem m_43 : Cond.fieldLink RX3 25 "SeaJar$House" "hopes" "I" ∈ ALL := al_in (al_1 (List.mem_of_getElem? (i := 44) (by decide +kernel))) (by decide +kernel)
theorem m_44 : Cond.fieldLink RX3 28 "SeaJar$House" "children" "I" ∈ ALL := al_in (al_1 (List.mem_of_getElem? (i := 46) (by decide +kernel))) (by decide +kernel)
theorem m_45 : Cond.fieldLink RX3 31 "SeaJar$House" "pence" "I" ∈ ALL := al_in (al_1 (List.mem_of_getElem? (i := 48) (by decide +kernel))) (by decide +kernel)
theorem m_46 : Cond.fieldLink RX3 34 "SeaJar$House" "needs" "I" ∈ ALL := al_in (al_1 (List.mem_of_getElem? (i := 51) (by decide +kernel))) (by decide +kernel)
theorem m_47 : Cond.fieldLink RX3 37 "SeaJar$House" "price" "I" ∈ ALL := al_in (al_1 (List.mem_of_getElem? (i := 54) (by decide +kernel))) (by decide +kernel)
theorem m_48 : Cond.fieldLink RX3 40 "SeaJar$House" "mishaps" "I" ∈ ALL := al_in (al_1 (List.mem_of_getElem? (i := 57) (by decide +kernel))) (by decide +kernel)
theorem m_49 : Cond.fieldLink RX3 43 "SeaJar$House" "week" "I" ∈ ALL := al_in (al_1 (List.mem_of_getElem? (i := 60) (by decide +kernel))) (by decide +kernel)
theorem m_50 : Cond.fieldLink RX3 46 "SeaJar$House" "draw" "I" ∈ ALL := al_in (al_1 (List.mem_of_getElem? (i := 63) (by decide +kernel))) (by decide +kernel)
theorem m_51 : Cond.code yX3_become cX3_become 3 none ∈ ALL := al_in (al_2 (List.mem_of_getElem? (i := 154) rfl)) rfl
theorem m_52 : Cond.code yX3_moveOut cX3_moveOut 1 none ∈ ALL := al_in (al_2 (List.mem_of_getElem? (i := 158) rfl)) rfl
theorem m_53 : Cond.code yX6_isChild cX6_isChild 1 (some .boolean) ∈ ALL := al_in (al_2 (List.mem_of_getElem? (i := 24) rfl)) rfl
theorem m_54 : Cond.code yX3_add cX3_add 5 none ∈ ALL := al_in (al_2 (List.mem_of_getElem? (i := 12) rfl)) rfl
theorem m_55 : Cond.methodLink RX3 49 ⟨"SeaJar$Plain", "isChild", "()Z"⟩ ∈ ALL := al_in (al_2 (List.mem_of_getElem? (i := 13) (by decide +kernel))) (by decide +kernel)
theorem m_56 : Cond.sameMethod "SeaJar$Plain" "SeaJar$Plain" "isChild" "()Z" ∈ ALL := al_in (al_2 (List.mem_of_getElem? (i := 16) (by decide +kernel))) (by decide +kernel)
theorem m_57 : Cond.selects RX0 ⟨"SeaJar$Plain", "isChild", "()Z"⟩ yX6_isChild ∈ ALL := al_in (al_2 (List.mem_of_getElem? (i := 17) (by decide +kernel))) (by decide +kernel)
theorem m_58 : Cond.instanceMethod yX6_isChild ∈ ALL := al_in (al_2 (List.mem_of_getElem? (i := 14) (by decide +kernel))) (by decide +kernel)
theorem m_59 : Cond.selects RX1 ⟨"SeaJar$Plain", "isChild", "()Z"⟩ yX1_isChild ∈ ALL := al_in (al_2 (List.mem_of_getElem? (i := 18) (by decide +kernel))) (by decide +kernel)
theorem m_60 : Cond.instanceMethod yX1_isChild ∈ ALL := al_in (al_2 (List.mem_of_getElem? (i := 19) (by decide +kernel))) (by decide +kernel)
theorem m_61 : Cond.initialized RX1 ∈ ALL := al_in (al_1 (List.mem_of_getElem? (i := 12) (by decide +kernel))) (by decide +kernel)
theorem m_62 : Cond.selects RX2 ⟨"SeaJar$Plain", "isChild", "()Z"⟩ yX6_isChild ∈ ALL := al_in (al_2 (List.mem_of_getElem? (i := 21) (by decide +kernel))) (by decide +kernel)
theorem m_63 : Cond.selects RX4 ⟨"SeaJar$Plain", "isChild", "()Z"⟩ yX6_isChild ∈ ALL := al_in (al_2 (List.mem_of_getElem? (i := 22) (by decide +kernel))) (by decide +kernel)
theorem m_64 : Cond.selects RX6 yX6_isChild yX6_isChild ∈ ALL := al_in (al_2 (List.mem_of_getElem? (i := 15) (by decide +kernel))) (by decide +kernel)
theorem m_65 : Cond.selects RX8 ⟨"SeaJar$Plain", "isChild", "()Z"⟩ yX6_isChild ∈ ALL := al_in (al_2 (List.mem_of_getElem? (i := 23) (by decide +kernel))) (by decide +kernel)
theorem m_66 : Cond.code yJ6_bitCount_0f7a4 cJ6_bitCount_0f7a4 1 (some .int) ∈ ALL := al_in (al_2 (List.mem_of_getElem? (i := 67) rfl)) rfl
theorem m_67 : Cond.constant RJ6 265 (1431655765) ∈ ALL := al_in (al_2 (List.mem_of_getElem? (i := 68) (by decide +kernel))) (by decide +kernel)
theorem m_68 : Cond.constant RJ6 266 (858993459) ∈ ALL := al_in (al_2 (List.mem_of_getElem? (i := 69) (by decide +kernel))) (by decide +kernel)
theorem m_69 : Cond.constant RJ6 267 (252645135) ∈ ALL := al_in (al_2 (List.mem_of_getElem? (i := 70) (by decide +kernel))) (by decide +kernel)
theorem m_70 : Cond.code yX3_withHopes cX3_withHopes 2 (some .int) ∈ ALL := al_in (al_2 (List.mem_of_getElem? (i := 64) rfl)) rfl
theorem m_71 : Cond.methodLink RX3 53 yJ6_bitCount_0f7a4 ∈ ALL := al_in (al_2 (List.mem_of_getElem? (i := 65) (by decide +kernel))) (by decide +kernel)
theorem m_72 : Cond.static yJ6_bitCount_0f7a4 ∈ ALL := al_in (al_2 (List.mem_of_getElem? (i := 66) (by decide +kernel))) (by decide +kernel)
theorem m_73 : Cond.initialized RJ6 ∈ ALL := al_in (al_1 (List.mem_of_getElem? (i := 13) (by decide +kernel))) (by decide +kernel)
theorem m_74 : Cond.code yX8_words cX8_words 5 (some .int) ∈ ALL := al_in (al_2 (List.mem_of_getElem? (i := 89) rfl)) rfl
theorem m_75 : Cond.methodLink RX3 59 yX3_withHopes ∈ ALL := al_in (al_2 (List.mem_of_getElem? (i := 61) (by decide +kernel))) (by decide +kernel)
theorem m_76 : Cond.instanceMethod yX3_withHopes ∈ ALL := al_in (al_2 (List.mem_of_getElem? (i := 62) (by decide +kernel))) (by decide +kernel)
theorem m_77 : Cond.selects RX3 yX3_withHopes yX3_withHopes ∈ ALL := al_in (al_2 (List.mem_of_getElem? (i := 63) (by decide +kernel))) (by decide +kernel)
theorem m_78 : Cond.initialized RX3 ∈ ALL := al_in (al_1 (List.mem_of_getElem? (i := 2) (by decide +kernel))) (by decide +kernel)
theorem m_79 : Cond.methodLink RX3 62 ⟨"SeaJar$Plain", "words", "(IIII)I"⟩ ∈ ALL := al_in (al_2 (List.mem_of_getElem? (i := 71) (by decide +kernel))) (by decide +kernel)
theorem m_80 : Cond.selects RX0 ⟨"SeaJar$Plain", "words", "(IIII)I"⟩ yX0_words ∈ ALL := al_in (al_2 (List.mem_of_getElem? (i := 75) (by decide +kernel))) (by decide +kernel)
theorem m_81 : Cond.instanceMethod yX0_words ∈ ALL := al_in (al_2 (List.mem_of_getElem? (i := 76) (by decide +kernel))) (by decide +kernel)
theorem m_82 : Cond.initialized RX0 ∈ ALL := al_in (al_1 (List.mem_of_getElem? (i := 8) (by decide +kernel))) (by decide +kernel)
theorem m_83 : Cond.selects RX1 ⟨"SeaJar$Plain", "words", "(IIII)I"⟩ yX1_words ∈ ALL := al_in (al_2 (List.mem_of_getElem? (i := 82) (by decide +kernel))) (by decide +kernel)
theorem m_84 : Cond.instanceMethod yX1_words ∈ ALL := al_in (al_2 (List.mem_of_getElem? (i := 83) (by decide +kernel))) (by decide +kernel)
theorem m_85 : Cond.selects RX2 ⟨"SeaJar$Plain", "words", "(IIII)I"⟩ yX6_words ∈ ALL := al_in (al_2 (List.mem_of_getElem? (i := 85) (by decide +kernel))) (by decide +kernel)
theorem m_86 : Cond.selects RX4 ⟨"SeaJar$Plain", "words", "(IIII)I"⟩ yX6_words ∈ ALL := al_in (al_2 (List.mem_of_getElem? (i := 86) (by decide +kernel))) (by decide +kernel)
theorem m_87 : Cond.selects RX6 yX6_words yX6_words ∈ ALL := al_in (al_2 (List.mem_of_getElem? (i := 73) (by decide +kernel))) (by decide +kernel)
theorem m_88 : Cond.selects RX8 ⟨"SeaJar$Plain", "words", "(IIII)I"⟩ yX8_words ∈ ALL := al_in (al_2 (List.mem_of_getElem? (i := 87) (by decide +kernel))) (by decide +kernel)
theorem m_89 : Cond.instanceMethod yX8_words ∈ ALL := al_in (al_2 (List.mem_of_getElem? (i := 88) (by decide +kernel))) (by decide +kernel)
theorem m_90 : Cond.initialized RX8 ∈ ALL := al_in (al_1 (List.mem_of_getElem? (i := 11) (by decide +kernel))) (by decide +kernel)
theorem m_91 : Cond.code yX3_wordsOf cX3_wordsOf 2 (some .int) ∈ ALL := al_in (al_2 (List.mem_of_getElem? (i := 60) rfl)) rfl
theorem m_92 : Cond.code yX4_pays cX4_pays 3 (some .int) ∈ ALL := al_in (al_2 (List.mem_of_getElem? (i := 110) rfl)) rfl
theorem m_93 : Cond.methodLink RX4 9 yX6_pays ∈ ALL := al_in (al_2 (List.mem_of_getElem? (i := 111) (by decide +kernel))) (by decide +kernel)
theorem m_94 : Cond.superclass RX4 RX6 ∈ ALL := al_in (al_1 (List.mem_of_getElem? (i := 227) (by decide +kernel))) (by decide +kernel)
theorem m_95 : Cond.methodLink RX3 66 yX3_wordsOf ∈ ALL := al_in (al_2 (List.mem_of_getElem? (i := 95) (by decide +kernel))) (by decide +kernel)
theorem m_96 : Cond.instanceMethod yX3_wordsOf ∈ ALL := al_in (al_2 (List.mem_of_getElem? (i := 58) (by decide +kernel))) (by decide +kernel)
theorem m_97 : Cond.selects RX3 yX3_wordsOf yX3_wordsOf ∈ ALL := al_in (al_2 (List.mem_of_getElem? (i := 59) (by decide +kernel))) (by decide +kernel)
theorem m_98 : Cond.methodLink RX3 69 ⟨"SeaJar$Plain", "pays", "(II)I"⟩ ∈ ALL := al_in (al_2 (List.mem_of_getElem? (i := 96) (by decide +kernel))) (by decide +kernel)
theorem m_99 : Cond.selects RX0 ⟨"SeaJar$Plain", "pays", "(II)I"⟩ yX0_pays ∈ ALL := al_in (al_2 (List.mem_of_getElem? (i := 100) (by decide +kernel))) (by decide +kernel)
theorem m_100 : Cond.instanceMethod yX0_pays ∈ ALL := al_in (al_2 (List.mem_of_getElem? (i := 101) (by decide +kernel))) (by decide +kernel)
theorem m_101 : Cond.selects RX1 ⟨"SeaJar$Plain", "pays", "(II)I"⟩ yX6_pays ∈ ALL := al_in (al_2 (List.mem_of_getElem? (i := 103) (by decide +kernel))) (by decide +kernel)
theorem m_102 : Cond.selects RX2 ⟨"SeaJar$Plain", "pays", "(II)I"⟩ yX2_pays ∈ ALL := al_in (al_2 (List.mem_of_getElem? (i := 104) (by decide +kernel))) (by decide +kernel)
theorem m_103 : Cond.instanceMethod yX2_pays ∈ ALL := al_in (al_2 (List.mem_of_getElem? (i := 105) (by decide +kernel))) (by decide +kernel)
theorem m_104 : Cond.initialized RX2 ∈ ALL := al_in (al_1 (List.mem_of_getElem? (i := 9) (by decide +kernel))) (by decide +kernel)
theorem m_105 : Cond.selects RX4 ⟨"SeaJar$Plain", "pays", "(II)I"⟩ yX4_pays ∈ ALL := al_in (al_2 (List.mem_of_getElem? (i := 108) (by decide +kernel))) (by decide +kernel)
theorem m_106 : Cond.instanceMethod yX4_pays ∈ ALL := al_in (al_2 (List.mem_of_getElem? (i := 109) (by decide +kernel))) (by decide +kernel)
theorem m_107 : Cond.initialized RX4 ∈ ALL := al_in (al_1 (List.mem_of_getElem? (i := 10) (by decide +kernel))) (by decide +kernel)
theorem m_108 : Cond.selects RX6 yX6_pays yX6_pays ∈ ALL := al_in (al_2 (List.mem_of_getElem? (i := 98) (by decide +kernel))) (by decide +kernel)
theorem m_109 : Cond.selects RX8 ⟨"SeaJar$Plain", "pays", "(II)I"⟩ yX4_pays ∈ ALL := al_in (al_2 (List.mem_of_getElem? (i := 112) (by decide +kernel))) (by decide +kernel)
theorem m_110 : Cond.code yX3_paysOf cX3_paysOf 2 (some .int) ∈ ALL := al_in (al_2 (List.mem_of_getElem? (i := 94) rfl)) rfl
theorem m_111 : Cond.code yX6_habitThen cX6_habitThen 3 (some .int) ∈ ALL := al_in (al_2 (List.mem_of_getElem? (i := 130) rfl)) rfl
theorem m_112 : Cond.methodLink RX6 15 Lib.Math.min.name ∈ ALL := al_in (al_2 (List.mem_of_getElem? (i := 131) (by decide +kernel))) (by decide +kernel)
theorem m_113 : Cond.methodLink RX6 21 Lib.Math.max.name ∈ ALL := al_in (al_2 (List.mem_of_getElem? (i := 132) (by decide +kernel))) (by decide +kernel)
theorem m_114 : Cond.static Lib.Math.max.name ∈ ALL := al_in (al_2 (List.mem_of_getElem? (i := 133) (by decide +kernel))) (by decide +kernel)
theorem m_115 : Cond.code Lib.Math.max.name Lib.Math.max.code 2 (some .int) ∈ ALL := al_in (al_2 (List.mem_of_getElem? (i := 134) rfl)) rfl
theorem m_116 : Cond.methodLink RX3 73 yX3_paysOf ∈ ALL := al_in (al_2 (List.mem_of_getElem? (i := 118) (by decide +kernel))) (by decide +kernel)
theorem m_117 : Cond.instanceMethod yX3_paysOf ∈ ALL := al_in (al_2 (List.mem_of_getElem? (i := 92) (by decide +kernel))) (by decide +kernel)
theorem m_118 : Cond.selects RX3 yX3_paysOf yX3_paysOf ∈ ALL := al_in (al_2 (List.mem_of_getElem? (i := 93) (by decide +kernel))) (by decide +kernel)
theorem m_119 : Cond.methodLink RX3 76 ⟨"SeaJar$Plain", "habitThen", "(II)I"⟩ ∈ ALL := al_in (al_2 (List.mem_of_getElem? (i := 119) (by decide +kernel))) (by decide +kernel)
theorem m_120 : Cond.sameMethod "SeaJar$Plain" "SeaJar$Plain" "habitThen" "(II)I" ∈ ALL := al_in (al_2 (List.mem_of_getElem? (i := 122) (by decide +kernel))) (by decide +kernel)
theorem m_121 : Cond.instanceMethod ⟨"SeaJar$Plain", "habitThen", "(II)I"⟩ ∈ ALL := al_in (al_2 (List.mem_of_getElem? (i := 120) (by decide +kernel))) (by decide +kernel)
theorem m_122 : Cond.selects RX0 ⟨"SeaJar$Plain", "habitThen", "(II)I"⟩ yX0_habitThen ∈ ALL := al_in (al_2 (List.mem_of_getElem? (i := 123) (by decide +kernel))) (by decide +kernel)
theorem m_123 : Cond.instanceMethod yX0_habitThen ∈ ALL := al_in (al_2 (List.mem_of_getElem? (i := 124) (by decide +kernel))) (by decide +kernel)
theorem m_124 : Cond.selects RX1 ⟨"SeaJar$Plain", "habitThen", "(II)I"⟩ yX6_habitThen ∈ ALL := al_in (al_2 (List.mem_of_getElem? (i := 126) (by decide +kernel))) (by decide +kernel)
theorem m_125 : Cond.selects RX2 ⟨"SeaJar$Plain", "habitThen", "(II)I"⟩ yX6_habitThen ∈ ALL := al_in (al_2 (List.mem_of_getElem? (i := 127) (by decide +kernel))) (by decide +kernel)
theorem m_126 : Cond.selects RX4 ⟨"SeaJar$Plain", "habitThen", "(II)I"⟩ yX6_habitThen ∈ ALL := al_in (al_2 (List.mem_of_getElem? (i := 128) (by decide +kernel))) (by decide +kernel)
theorem m_127 : Cond.selects RX6 yX6_habitThen yX6_habitThen ∈ ALL := al_in (al_2 (List.mem_of_getElem? (i := 121) (by decide +kernel))) (by decide +kernel)
theorem m_128 : Cond.selects RX8 ⟨"SeaJar$Plain", "habitThen", "(II)I"⟩ yX6_habitThen ∈ ALL := al_in (al_2 (List.mem_of_getElem? (i := 129) (by decide +kernel))) (by decide +kernel)
theorem m_129 : Cond.code yX3_habitThenOf cX3_habitThenOf 2 (some .int) ∈ ALL := al_in (al_2 (List.mem_of_getElem? (i := 117) rfl)) rfl
theorem m_130 : Cond.code yX3_wordsOfAll cX3_wordsOfAll 3 (some .int) ∈ ALL := al_in (al_3 (List.mem_of_getElem? (i := 49) rfl)) rfl
theorem m_131 : Cond.code yX3_paysOfAll cX3_paysOfAll 3 (some .int) ∈ ALL := al_in (al_3 (List.mem_of_getElem? (i := 53) rfl)) rfl
theorem m_132 : Cond.methodLink RX3 79 Lib.Math.min.name ∈ ALL := al_in (al_3 (List.mem_of_getElem? (i := 70) (by decide +kernel))) (by decide +kernel)
theorem m_133 : Cond.code yX3_live cX3_live 9 (some .int) ∈ ALL := al_in (al_3 (List.mem_of_getElem? (i := 69) rfl)) rfl
theorem m_134 : Cond.methodLink RX3 84 yX3_live ∈ ALL := al_in (al_3 (List.mem_of_getElem? (i := 106) (by decide +kernel))) (by decide +kernel)
theorem m_135 : Cond.instanceMethod yX3_live ∈ ALL := al_in (al_3 (List.mem_of_getElem? (i := 67) (by decide +kernel))) (by decide +kernel)
theorem m_136 : Cond.selects RX3 yX3_live yX3_live ∈ ALL := al_in (al_3 (List.mem_of_getElem? (i := 68) (by decide +kernel))) (by decide +kernel)
theorem m_137 : Cond.code yX3_liveOn cX3_liveOn 4 (some .int) ∈ ALL := al_in (al_3 (List.mem_of_getElem? (i := 110) rfl)) rfl
theorem m_138 : Cond.code yX3_wordsInLast cX3_wordsInLast 4 (some .int) ∈ ALL := al_in (al_3 (List.mem_of_getElem? (i := 105) rfl)) rfl
theorem m_139 : Cond.code yX3_drawMishaps cX3_drawMishaps 1 (some .int) ∈ ALL := al_in (al_3 (List.mem_of_getElem? (i := 82) rfl)) rfl
theorem m_140 : Cond.constant RX3 87 (1103515245) ∈ ALL := al_in (al_3 (List.mem_of_getElem? (i := 83) (by decide +kernel))) (by decide +kernel)
theorem m_141 : Cond.constant RX3 88 (2147483647) ∈ ALL := al_in (al_3 (List.mem_of_getElem? (i := 84) (by decide +kernel))) (by decide +kernel)
theorem m_142 : Cond.constant RX3 89 (65536) ∈ ALL := al_in (al_3 (List.mem_of_getElem? (i := 85) (by decide +kernel))) (by decide +kernel)
theorem m_143 : Cond.code yX4_init cX4_init 2 none ∈ ALL := al_in (al_1 (List.mem_of_getElem? (i := 224) rfl)) rfl
theorem m_144 : Cond.methodLink RX4 3 yX6_init ∈ ALL := al_in (al_1 (List.mem_of_getElem? (i := 225) (by decide +kernel))) (by decide +kernel)
theorem m_145 : Cond.code yX4_kind cX4_kind 1 (some .int) ∈ ALL := al_in (al_2 (List.mem_of_getElem? (i := 52) rfl)) rfl
theorem m_146 : Cond.code yX5_init cX5_init 1 none ∈ ALL := al_in (al_1 (List.mem_of_getElem? (i := 94) rfl)) rfl
theorem m_147 : Cond.methodLink RX5 3 objectInit ∈ ALL := al_in (al_1 (List.mem_of_getElem? (i := 95) (by decide +kernel))) (by decide +kernel)
theorem m_148 : Cond.fieldLink RX5 9 "SeaJar$Past" "pence" "[I" ∈ ALL := al_in (al_1 (List.mem_of_getElem? (i := 96) (by decide +kernel))) (by decide +kernel)
theorem m_149 : Cond.fieldLink RX5 15 "SeaJar$Past" "weekOf" "[I" ∈ ALL := al_in (al_1 (List.mem_of_getElem? (i := 97) (by decide +kernel))) (by decide +kernel)
theorem m_150 : Cond.fieldLink RX5 18 "SeaJar$Past" "draws" "[I" ∈ ALL := al_in (al_1 (List.mem_of_getElem? (i := 98) (by decide +kernel))) (by decide +kernel)
theorem m_151 : Cond.fieldLink RX5 21 "SeaJar$Past" "habits" "[I" ∈ ALL := al_in (al_1 (List.mem_of_getElem? (i := 99) (by decide +kernel))) (by decide +kernel)
theorem m_152 : Cond.fieldLink RX5 24 "SeaJar$Past" "known" "I" ∈ ALL := al_in (al_1 (List.mem_of_getElem? (i := 100) (by decide +kernel))) (by decide +kernel)
theorem m_153 : Cond.fieldLink RX5 28 "SeaJar$Past" "next" "I" ∈ ALL := al_in (al_1 (List.mem_of_getElem? (i := 102) (by decide +kernel))) (by decide +kernel)
theorem m_154 : Cond.code yX5_become cX5_become 2 none ∈ ALL := al_in (al_3 (List.mem_of_getElem? (i := 157) rfl)) rfl
theorem m_155 : Cond.methodLink RX5 31 arraycopyName ∈ ALL := al_in (al_3 (List.mem_of_getElem? (i := 62) (by decide +kernel))) (by decide +kernel)
theorem m_156 : Cond.native arraycopyName ∈ ALL := al_in (al_3 (List.mem_of_getElem? (i := 64) (by decide +kernel))) (by decide +kernel)
theorem m_157 : Cond.static arraycopyName ∈ ALL := al_in (al_3 (List.mem_of_getElem? (i := 63) (by decide +kernel))) (by decide +kernel)
theorem m_158 : Cond.initialized "java/lang/System" ∈ ALL := al_in (al_1 (List.mem_of_getElem? (i := 20) (by decide +kernel))) (by decide +kernel)
theorem m_159 : Cond.code yX5_forget cX5_forget 1 none ∈ ALL := al_in (al_2 (List.mem_of_getElem? (i := 28) rfl)) rfl
theorem m_160 : Cond.code yX5_remember cX5_remember 2 none ∈ ALL := al_in (al_3 (List.mem_of_getElem? (i := 61) rfl)) rfl
theorem m_161 : Cond.fieldLink RX5 37 "SeaJar$House" "pence" "I" ∈ ALL := al_in (al_1 (List.mem_of_getElem? (i := 49) (by decide +kernel))) (by decide +kernel)
theorem m_162 : Cond.fieldLink RX5 41 "SeaJar$House" "week" "I" ∈ ALL := al_in (al_1 (List.mem_of_getElem? (i := 61) (by decide +kernel))) (by decide +kernel)
theorem m_163 : Cond.fieldLink RX5 44 "SeaJar$House" "draw" "I" ∈ ALL := al_in (al_1 (List.mem_of_getElem? (i := 64) (by decide +kernel))) (by decide +kernel)
theorem m_164 : Cond.fieldLink RX5 47 "SeaJar$House" "habits" "[I" ∈ ALL := al_in (al_1 (List.mem_of_getElem? (i := 41) (by decide +kernel))) (by decide +kernel)
theorem m_165 : Cond.methodLink RX5 48 Lib.Math.min.name ∈ ALL := al_in (al_3 (List.mem_of_getElem? (i := 65) (by decide +kernel))) (by decide +kernel)
theorem m_166 : Cond.code yX5_bringBack cX5_bringBack 2 none ∈ ALL := al_in (al_3 (List.mem_of_getElem? (i := 93) rfl)) rfl
theorem m_167 : Cond.code yX6_kind cX6_kind 1 (some .int) ∈ ALL := al_in (al_2 (List.mem_of_getElem? (i := 56) rfl)) rfl
theorem m_168 : Cond.code yX7_init cX7_init 1 none ∈ ALL := al_in (al_1 (List.mem_of_getElem? (i := 143) rfl)) rfl
theorem m_169 : Cond.methodLink RX7 3 objectInit ∈ ALL := al_in (al_1 (List.mem_of_getElem? (i := 144) (by decide +kernel))) (by decide +kernel)
theorem m_170 : Cond.arrayClass .long ∈ ALL := al_in (al_1 (List.mem_of_getElem? (i := 162) (by decide +kernel))) (by decide +kernel)
theorem m_171 : Cond.fieldLink RX7 9 "SeaJar$Row" "items" "[J" ∈ ALL := al_in (al_1 (List.mem_of_getElem? (i := 145) (by decide +kernel))) (by decide +kernel)
theorem m_172 : Cond.fieldLink RX7 15 "SeaJar$Row" "held" "Z" ∈ ALL := al_in (al_1 (List.mem_of_getElem? (i := 147) (by decide +kernel))) (by decide +kernel)
theorem m_173 : Cond.fieldLink RX7 19 "SeaJar$Row" "lane" "I" ∈ ALL := al_in (al_1 (List.mem_of_getElem? (i := 149) (by decide +kernel))) (by decide +kernel)
theorem m_174 : Cond.fieldLink RX7 23 "SeaJar$Row" "size" "I" ∈ ALL := al_in (al_1 (List.mem_of_getElem? (i := 151) (by decide +kernel))) (by decide +kernel)
theorem m_175 : Cond.code yX7_begin cX7_begin 4 none ∈ ALL := al_in (al_3 (List.mem_of_getElem? (i := 210) rfl)) rfl
theorem m_176 : Cond.code yX7_lacks cX7_lacks 3 (some .boolean) ∈ ALL := al_in (al_3 (List.mem_of_getElem? (i := 179) rfl)) rfl
theorem m_177 : Cond.code yX7_refuses cX7_refuses 4 (some .int) ∈ ALL := al_in (al_3 (List.mem_of_getElem? (i := 175) rfl)) rfl
theorem m_178 : Cond.methodLink RX7 26 yX7_lacks ∈ ALL := al_in (al_3 (List.mem_of_getElem? (i := 176) (by decide +kernel))) (by decide +kernel)
theorem m_179 : Cond.instanceMethod yX7_lacks ∈ ALL := al_in (al_3 (List.mem_of_getElem? (i := 177) (by decide +kernel))) (by decide +kernel)
theorem m_180 : Cond.selects RX7 yX7_lacks yX7_lacks ∈ ALL := al_in (al_3 (List.mem_of_getElem? (i := 178) (by decide +kernel))) (by decide +kernel)
theorem m_181 : Cond.initialized RX7 ∈ ALL := al_in (al_1 (List.mem_of_getElem? (i := 5) (by decide +kernel))) (by decide +kernel)
theorem m_182 : Cond.code yX7_put cX7_put 4 none ∈ ALL := al_in (al_3 (List.mem_of_getElem? (i := 202) rfl)) rfl
theorem m_183 : Cond.code yX8_init cX8_init 2 none ∈ ALL := al_in (al_1 (List.mem_of_getElem? (i := 232) rfl)) rfl
theorem m_184 : Cond.methodLink RX8 3 yX4_init ∈ ALL := al_in (al_1 (List.mem_of_getElem? (i := 233) (by decide +kernel))) (by decide +kernel)
theorem m_185 : Cond.instanceMethod yX4_init ∈ ALL := al_in (al_1 (List.mem_of_getElem? (i := 223) (by decide +kernel))) (by decide +kernel)
theorem m_186 : Cond.code yX8_kind cX8_kind 1 (some .int) ∈ ALL := al_in (al_2 (List.mem_of_getElem? (i := 55) rfl)) rfl
theorem m_187 : Cond.code yX9_init cX9_init 1 none ∈ ALL := al_in (al_1 (List.mem_of_getElem? (i := 120) rfl)) rfl
theorem m_188 : Cond.methodLink RX9 3 objectInit ∈ ALL := al_in (al_1 (List.mem_of_getElem? (i := 121) (by decide +kernel))) (by decide +kernel)
theorem m_189 : Cond.arrayClass .char ∈ ALL := al_in (al_1 (List.mem_of_getElem? (i := 137) (by decide +kernel))) (by decide +kernel)
theorem m_190 : Cond.fieldLink RX9 9 "SeaJar$Tape" "letters" "[C" ∈ ALL := al_in (al_1 (List.mem_of_getElem? (i := 122) (by decide +kernel))) (by decide +kernel)
theorem m_191 : Cond.fieldLink RX9 15 "SeaJar$Tape" "length" "I" ∈ ALL := al_in (al_1 (List.mem_of_getElem? (i := 124) (by decide +kernel))) (by decide +kernel)
theorem m_192 : Cond.fieldLink RX9 19 "SeaJar$Tape" "place" "I" ∈ ALL := al_in (al_1 (List.mem_of_getElem? (i := 126) (by decide +kernel))) (by decide +kernel)
theorem m_193 : Cond.fieldLink RX9 22 "SeaJar$Tape" "fault" "I" ∈ ALL := al_in (al_1 (List.mem_of_getElem? (i := 127) (by decide +kernel))) (by decide +kernel)
theorem m_194 : Cond.code yX9_look cX9_look 1 (some .char) ∈ ALL := al_in (al_2 (List.mem_of_getElem? (i := 170) rfl)) rfl
theorem m_195 : Cond.code yX10_within cX10_within 3 (some .boolean) ∈ ALL := al_in (al_1 (List.mem_of_getElem? (i := 194) rfl)) rfl
theorem m_196 : Cond.code yX9_isDigit cX9_isDigit 2 (some .boolean) ∈ ALL := al_in (al_2 (List.mem_of_getElem? (i := 173) rfl)) rfl
theorem m_197 : Cond.static yX10_within ∈ ALL := al_in (al_1 (List.mem_of_getElem? (i := 193) (by decide +kernel))) (by decide +kernel)
theorem m_198 : Cond.initialized RX10 ∈ ALL := al_in (al_1 (List.mem_of_getElem? (i := 1) (by decide +kernel))) (by decide +kernel)
theorem m_199 : Cond.code yX9_failAt cX9_failAt 2 none ∈ ALL := al_in (al_2 (List.mem_of_getElem? (i := 178) rfl)) rfl
theorem m_200 : Cond.code yX9_number cX9_number 4 (some .int) ∈ ALL := al_in (al_2 (List.mem_of_getElem? (i := 166) rfl)) rfl
theorem m_201 : Cond.methodLink RX9 55 yX9_look ∈ ALL := al_in (al_2 (List.mem_of_getElem? (i := 167) (by decide +kernel))) (by decide +kernel)
theorem m_202 : Cond.instanceMethod yX9_look ∈ ALL := al_in (al_2 (List.mem_of_getElem? (i := 169) (by decide +kernel))) (by decide +kernel)
theorem m_203 : Cond.selects RX9 yX9_look yX9_look ∈ ALL := al_in (al_p (List.mem_of_getElem? (i := 2) (by decide +kernel))) (by decide +kernel)
theorem m_204 : Cond.initialized RX9 ∈ ALL := al_in (al_1 (List.mem_of_getElem? (i := 4) (by decide +kernel))) (by decide +kernel)
theorem m_205 : Cond.methodLink RX9 78 yX9_isDigit ∈ ALL := al_in (al_2 (List.mem_of_getElem? (i := 171) (by decide +kernel))) (by decide +kernel)
theorem m_206 : Cond.static yX9_isDigit ∈ ALL := al_in (al_2 (List.mem_of_getElem? (i := 172) (by decide +kernel))) (by decide +kernel)
theorem m_207 : Cond.methodLink RX9 59 yX9_failAt ∈ ALL := al_in (al_2 (List.mem_of_getElem? (i := 175) (by decide +kernel))) (by decide +kernel)
theorem m_208 : Cond.instanceMethod yX9_failAt ∈ ALL := al_in (al_2 (List.mem_of_getElem? (i := 177) (by decide +kernel))) (by decide +kernel)
theorem m_209 : Cond.selects RX9 yX9_failAt yX9_failAt ∈ ALL := al_in (al_p (List.mem_of_getElem? (i := 3) (by decide +kernel))) (by decide +kernel)
theorem m_210 : Cond.code yX9_accept cX9_accept 2 (some .boolean) ∈ ALL := al_in (al_2 (List.mem_of_getElem? (i := 186) rfl)) rfl
theorem m_211 : Cond.code yX9_expect cX9_expect 2 none ∈ ALL := al_in (al_2 (List.mem_of_getElem? (i := 182) rfl)) rfl
theorem m_212 : Cond.methodLink RX9 51 yX9_accept ∈ ALL := al_in (al_2 (List.mem_of_getElem? (i := 183) (by decide +kernel))) (by decide +kernel)
theorem m_213 : Cond.instanceMethod yX9_accept ∈ ALL := al_in (al_2 (List.mem_of_getElem? (i := 185) (by decide +kernel))) (by decide +kernel)
theorem m_214 : Cond.selects RX9 yX9_accept yX9_accept ∈ ALL := al_in (al_p (List.mem_of_getElem? (i := 5) (by decide +kernel))) (by decide +kernel)
theorem m_215 : Cond.code yX9_digit cX9_digit 3 (some .int) ∈ ALL := al_in (al_2 (List.mem_of_getElem? (i := 190) rfl)) rfl
theorem m_216 : Cond.code yJ0_isLatin1_aae02 cJ0_isLatin1_aae02 1 (some .boolean) ∈ ALL := al_in (al_2 (List.mem_of_getElem? (i := 207) rfl)) rfl
theorem m_217 : Cond.fieldLink RJ0 38 "java/lang/String" "COMPACT_STRINGS" "Z" ∈ ALL := al_in (al_2 (List.mem_of_getElem? (i := 208) (by decide +kernel))) (by decide +kernel)
theorem m_218 : Cond.fieldLink RJ0 15 "java/lang/String" "coder" "B" ∈ ALL := al_in (al_5 (List.mem_of_getElem? (i := 46) (by decide +kernel))) (by decide +kernel)
theorem m_219 : Cond.code yJ0_coder_7d493 cJ0_coder_7d493 1 (some .byte) ∈ ALL := al_in (al_2 (List.mem_of_getElem? (i := 217) rfl)) rfl
theorem m_220 : Cond.code yJ0_length_8abf5 cJ0_length_8abf5 1 (some .int) ∈ ALL := al_in (al_2 (List.mem_of_getElem? (i := 213) rfl)) rfl
theorem m_221 : Cond.fieldLink RJ0 9 "java/lang/String" "value" "[B" ∈ ALL := al_in (al_5 (List.mem_of_getElem? (i := 47) (by decide +kernel))) (by decide +kernel)
theorem m_222 : Cond.methodLink RJ0 335 yJ0_coder_7d493 ∈ ALL := al_in (al_2 (List.mem_of_getElem? (i := 214) (by decide +kernel))) (by decide +kernel)
theorem m_223 : Cond.instanceMethod yJ0_coder_7d493 ∈ ALL := al_in (al_2 (List.mem_of_getElem? (i := 215) (by decide +kernel))) (by decide +kernel)
theorem m_224 : Cond.selects RJ0 yJ0_coder_7d493 yJ0_coder_7d493 ∈ ALL := al_in (al_2 (List.mem_of_getElem? (i := 216) (by decide +kernel))) (by decide +kernel)
theorem m_225 : Cond.initialized RJ0 ∈ ALL := al_in (al_1 (List.mem_of_getElem? (i := 15) (by decide +kernel))) (by decide +kernel)
theorem m_226 : Cond.code yJ1_canEncode_9a6ad cJ1_canEncode_9a6ad 1 (some .boolean) ∈ ALL := al_in (al_2 (List.mem_of_getElem? (i := 223) rfl)) rfl
theorem m_227 : Cond.code yJ1_indexOfChar_4cfef cJ1_indexOfChar_4cfef 6 (some .int) ∈ ALL := al_in (al_2 (List.mem_of_getElem? (i := 228) rfl)) rfl
theorem m_228 : Cond.code yJ1_indexOf_4cfef cJ1_indexOf_4cfef 4 (some .int) ∈ ALL := al_in (al_2 (List.mem_of_getElem? (i := 220) rfl)) rfl
theorem m_229 : Cond.methodLink RJ1 92 Lib.Math.max.name ∈ ALL := al_in (al_2 (List.mem_of_getElem? (i := 224) (by decide +kernel))) (by decide +kernel)
theorem m_230 : Cond.methodLink RJ1 38 Lib.Math.min.name ∈ ALL := al_in (al_2 (List.mem_of_getElem? (i := 225) (by decide +kernel))) (by decide +kernel)
theorem m_231 : Cond.methodLink RJ1 88 yJ1_canEncode_9a6ad ∈ ALL := al_in (al_2 (List.mem_of_getElem? (i := 221) (by decide +kernel))) (by decide +kernel)
theorem m_232 : Cond.static yJ1_canEncode_9a6ad ∈ ALL := al_in (al_2 (List.mem_of_getElem? (i := 222) (by decide +kernel))) (by decide +kernel)
theorem m_233 : Cond.initialized RJ1 ∈ ALL := al_in (al_1 (List.mem_of_getElem? (i := 16) (by decide +kernel))) (by decide +kernel)
theorem m_234 : Cond.methodLink RJ1 95 yJ1_indexOfChar_4cfef ∈ ALL := al_in (al_2 (List.mem_of_getElem? (i := 226) (by decide +kernel))) (by decide +kernel)
theorem m_235 : Cond.static yJ1_indexOfChar_4cfef ∈ ALL := al_in (al_2 (List.mem_of_getElem? (i := 227) (by decide +kernel))) (by decide +kernel)
theorem m_236 : Cond.code yJ2_length_9d52b cJ2_length_9d52b 1 (some .int) ∈ ALL := al_in (al_3 (List.mem_of_getElem? (i := 3) rfl)) rfl
theorem m_237 : Cond.code yJ3_checkFromToIndex_8c36e cJ3_checkFromToIndex_8c36e 4 (some .int) ∈ ALL := al_in (al_3 (List.mem_of_getElem? (i := 11) rfl)) rfl
theorem m_238 : Cond.code yJ0_checkBoundsBeginEnd_23922 cJ0_checkBoundsBeginEnd_23922 3 none ∈ ALL := al_in (al_3 (List.mem_of_getElem? (i := 6) rfl)) rfl
theorem m_239 : Cond.fieldLink RJ0 1053 "jdk/internal/util/Preconditions" "SIOOBE_FORMATTER" "Ljava/util/function/BiFunction;" ∈ ALL := al_in (al_3 (List.mem_of_getElem? (i := 7) (by decide +kernel))) (by decide +kernel)
theorem m_240 : Cond.methodLink RJ0 1062 yJ3_checkFromToIndex_8c36e ∈ ALL := al_in (al_3 (List.mem_of_getElem? (i := 9) (by decide +kernel))) (by decide +kernel)
theorem m_241 : Cond.static yJ3_checkFromToIndex_8c36e ∈ ALL := al_in (al_3 (List.mem_of_getElem? (i := 10) (by decide +kernel))) (by decide +kernel)
theorem m_242 : Cond.initialized RJ3 ∈ ALL := al_in (al_1 (List.mem_of_getElem? (i := 18) (by decide +kernel))) (by decide +kernel)
theorem m_243 : Cond.code yJ2_checkBoundsBeginEnd_d044e cJ2_checkBoundsBeginEnd_d044e 3 none ∈ ALL := al_in (al_3 (List.mem_of_getElem? (i := 0) rfl)) rfl
theorem m_244 : Cond.methodLink RJ2 48 yJ2_length_9d52b ∈ ALL := al_in (al_3 (List.mem_of_getElem? (i := 1) (by decide +kernel))) (by decide +kernel)
theorem m_245 : Cond.static yJ2_length_9d52b ∈ ALL := al_in (al_3 (List.mem_of_getElem? (i := 2) (by decide +kernel))) (by decide +kernel)
theorem m_246 : Cond.initialized RJ2 ∈ ALL := al_in (al_1 (List.mem_of_getElem? (i := 17) (by decide +kernel))) (by decide +kernel)
theorem m_247 : Cond.methodLink RJ2 241 yJ0_checkBoundsBeginEnd_23922 ∈ ALL := al_in (al_3 (List.mem_of_getElem? (i := 4) (by decide +kernel))) (by decide +kernel)
theorem m_248 : Cond.static yJ0_checkBoundsBeginEnd_23922 ∈ ALL := al_in (al_3 (List.mem_of_getElem? (i := 5) (by decide +kernel))) (by decide +kernel)
theorem m_249 : Cond.code yJ2_getChar_3b067 cJ2_getChar_3b067 2 (some .char) ∈ ALL := al_in (al_3 (List.mem_of_getElem? (i := 17) rfl)) rfl
theorem m_250 : Cond.fieldLink RJ2 44 "java/lang/StringUTF16" "$assertionsDisabled" "Z" ∈ ALL := al_in (al_3 (List.mem_of_getElem? (i := 18) (by decide +kernel))) (by decide +kernel)
theorem m_251 : Cond.fieldLink RJ2 59 "java/lang/StringUTF16" "HI_BYTE_SHIFT" "I" ∈ ALL := al_in (al_3 (List.mem_of_getElem? (i := 20) (by decide +kernel))) (by decide +kernel)
theorem m_252 : Cond.fieldLink RJ2 63 "java/lang/StringUTF16" "LO_BYTE_SHIFT" "I" ∈ ALL := al_in (al_3 (List.mem_of_getElem? (i := 22) (by decide +kernel))) (by decide +kernel)
theorem m_253 : Cond.code yJ2_indexOfCharUnsafe_4cfef cJ2_indexOfCharUnsafe_4cfef 5 (some .int) ∈ ALL := al_in (al_3 (List.mem_of_getElem? (i := 14) rfl)) rfl
theorem m_254 : Cond.methodLink RJ2 71 yJ2_getChar_3b067 ∈ ALL := al_in (al_3 (List.mem_of_getElem? (i := 15) (by decide +kernel))) (by decide +kernel)
theorem m_255 : Cond.static yJ2_getChar_3b067 ∈ ALL := al_in (al_3 (List.mem_of_getElem? (i := 16) (by decide +kernel))) (by decide +kernel)
theorem m_256 : Cond.methodLink RJ2 96 yJ2_checkBoundsBeginEnd_d044e ∈ ALL := al_in (al_2 (List.mem_of_getElem? (i := 238) (by decide +kernel))) (by decide +kernel)
theorem m_257 : Cond.static yJ2_checkBoundsBeginEnd_d044e ∈ ALL := al_in (al_2 (List.mem_of_getElem? (i := 239) (by decide +kernel))) (by decide +kernel)
theorem m_258 : Cond.methodLink RJ2 244 yJ2_indexOfCharUnsafe_4cfef ∈ ALL := al_in (al_3 (List.mem_of_getElem? (i := 12) (by decide +kernel))) (by decide +kernel)
theorem m_259 : Cond.static yJ2_indexOfCharUnsafe_4cfef ∈ ALL := al_in (al_3 (List.mem_of_getElem? (i := 13) (by decide +kernel))) (by decide +kernel)
theorem m_260 : Cond.code yJ2_indexOfChar_4cfef cJ2_indexOfChar_4cfef 4 (some .int) ∈ ALL := al_in (al_2 (List.mem_of_getElem? (i := 237) rfl)) rfl
theorem m_261 : Cond.code yJ11_isValidCodePoint_9a6ad cJ11_isValidCodePoint_9a6ad 2 (some .boolean) ∈ ALL := al_in (al_3 (List.mem_of_getElem? (i := 29) rfl)) rfl
theorem m_262 : Cond.code yJ11_highSurrogate_5068e cJ11_highSurrogate_5068e 1 (some .char) ∈ ALL := al_in (al_3 (List.mem_of_getElem? (i := 32) rfl)) rfl
theorem m_263 : Cond.constant RJ11 110 (55232) ∈ ALL := al_in (al_3 (List.mem_of_getElem? (i := 33) (by decide +kernel))) (by decide +kernel)
theorem m_264 : Cond.code yJ11_lowSurrogate_5068e cJ11_lowSurrogate_5068e 1 (some .char) ∈ ALL := al_in (al_3 (List.mem_of_getElem? (i := 36) rfl)) rfl
theorem m_265 : Cond.constant RJ11 76 (56320) ∈ ALL := al_in (al_3 (List.mem_of_getElem? (i := 37) (by decide +kernel))) (by decide +kernel)
theorem m_266 : Cond.methodLink RJ2 164 yJ11_isValidCodePoint_9a6ad ∈ ALL := al_in (al_3 (List.mem_of_getElem? (i := 27) (by decide +kernel))) (by decide +kernel)
theorem m_267 : Cond.static yJ11_isValidCodePoint_9a6ad ∈ ALL := al_in (al_3 (List.mem_of_getElem? (i := 28) (by decide +kernel))) (by decide +kernel)
theorem m_268 : Cond.initialized RJ11 ∈ ALL := al_in (al_1 (List.mem_of_getElem? (i := 19) (by decide +kernel))) (by decide +kernel)
theorem m_269 : Cond.methodLink RJ2 157 yJ11_highSurrogate_5068e ∈ ALL := al_in (al_3 (List.mem_of_getElem? (i := 30) (by decide +kernel))) (by decide +kernel)
theorem m_270 : Cond.static yJ11_highSurrogate_5068e ∈ ALL := al_in (al_3 (List.mem_of_getElem? (i := 31) (by decide +kernel))) (by decide +kernel)
theorem m_271 : Cond.methodLink RJ2 161 yJ11_lowSurrogate_5068e ∈ ALL := al_in (al_3 (List.mem_of_getElem? (i := 34) (by decide +kernel))) (by decide +kernel)
theorem m_272 : Cond.static yJ11_lowSurrogate_5068e ∈ ALL := al_in (al_3 (List.mem_of_getElem? (i := 35) (by decide +kernel))) (by decide +kernel)
theorem m_273 : Cond.code yJ2_indexOfSupplementary_4cfef cJ2_indexOfSupplementary_4cfef 7 (some .int) ∈ ALL := al_in (al_3 (List.mem_of_getElem? (i := 26) rfl)) rfl
theorem m_274 : Cond.methodLink RJ2 224 Lib.Math.max.name ∈ ALL := al_in (al_2 (List.mem_of_getElem? (i := 232) (by decide +kernel))) (by decide +kernel)
theorem m_275 : Cond.methodLink RJ2 183 Lib.Math.min.name ∈ ALL := al_in (al_2 (List.mem_of_getElem? (i := 233) (by decide +kernel))) (by decide +kernel)
theorem m_276 : Cond.constant RJ2 227 (65536) ∈ ALL := al_in (al_2 (List.mem_of_getElem? (i := 234) (by decide +kernel))) (by decide +kernel)
theorem m_277 : Cond.methodLink RJ2 228 yJ2_indexOfChar_4cfef ∈ ALL := al_in (al_2 (List.mem_of_getElem? (i := 235) (by decide +kernel))) (by decide +kernel)
theorem m_278 : Cond.static yJ2_indexOfChar_4cfef ∈ ALL := al_in (al_2 (List.mem_of_getElem? (i := 236) (by decide +kernel))) (by decide +kernel)
theorem m_279 : Cond.methodLink RJ2 232 yJ2_indexOfSupplementary_4cfef ∈ ALL := al_in (al_3 (List.mem_of_getElem? (i := 24) (by decide +kernel))) (by decide +kernel)
theorem m_280 : Cond.static yJ2_indexOfSupplementary_4cfef ∈ ALL := al_in (al_3 (List.mem_of_getElem? (i := 25) (by decide +kernel))) (by decide +kernel)
theorem m_281 : Cond.code yJ2_indexOf_4cfef cJ2_indexOf_4cfef 4 (some .int) ∈ ALL := al_in (al_2 (List.mem_of_getElem? (i := 231) rfl)) rfl
theorem m_282 : Cond.methodLink RJ0 492 yJ0_isLatin1_aae02 ∈ ALL := al_in (al_2 (List.mem_of_getElem? (i := 204) (by decide +kernel))) (by decide +kernel)
theorem m_283 : Cond.instanceMethod yJ0_isLatin1_aae02 ∈ ALL := al_in (al_2 (List.mem_of_getElem? (i := 205) (by decide +kernel))) (by decide +kernel)
theorem m_284 : Cond.selects RJ0 yJ0_isLatin1_aae02 yJ0_isLatin1_aae02 ∈ ALL := al_in (al_2 (List.mem_of_getElem? (i := 206) (by decide +kernel))) (by decide +kernel)
theorem m_285 : Cond.methodLink RJ0 505 yJ0_length_8abf5 ∈ ALL := al_in (al_2 (List.mem_of_getElem? (i := 210) (by decide +kernel))) (by decide +kernel)
theorem m_286 : Cond.instanceMethod yJ0_length_8abf5 ∈ ALL := al_in (al_2 (List.mem_of_getElem? (i := 211) (by decide +kernel))) (by decide +kernel)
theorem m_287 : Cond.selects RJ0 yJ0_length_8abf5 yJ0_length_8abf5 ∈ ALL := al_in (al_2 (List.mem_of_getElem? (i := 212) (by decide +kernel))) (by decide +kernel)
theorem m_288 : Cond.methodLink RJ0 637 yJ1_indexOf_4cfef ∈ ALL := al_in (al_2 (List.mem_of_getElem? (i := 218) (by decide +kernel))) (by decide +kernel)
theorem m_289 : Cond.static yJ1_indexOf_4cfef ∈ ALL := al_in (al_2 (List.mem_of_getElem? (i := 219) (by decide +kernel))) (by decide +kernel)
theorem m_290 : Cond.methodLink RJ0 640 yJ2_indexOf_4cfef ∈ ALL := al_in (al_2 (List.mem_of_getElem? (i := 229) (by decide +kernel))) (by decide +kernel)
theorem m_291 : Cond.static yJ2_indexOf_4cfef ∈ ALL := al_in (al_2 (List.mem_of_getElem? (i := 230) (by decide +kernel))) (by decide +kernel)
theorem m_292 : Cond.code yJ0_indexOf_7cf53 cJ0_indexOf_7cf53 3 (some .int) ∈ ALL := al_in (al_2 (List.mem_of_getElem? (i := 203) rfl)) rfl
theorem m_293 : Cond.methodLink RJ0 633 yJ0_indexOf_7cf53 ∈ ALL := al_in (al_2 (List.mem_of_getElem? (i := 200) (by decide +kernel))) (by decide +kernel)
theorem m_294 : Cond.instanceMethod yJ0_indexOf_7cf53 ∈ ALL := al_in (al_2 (List.mem_of_getElem? (i := 201) (by decide +kernel))) (by decide +kernel)
theorem m_295 : Cond.selects RJ0 yJ0_indexOf_7cf53 yJ0_indexOf_7cf53 ∈ ALL := al_in (al_2 (List.mem_of_getElem? (i := 202) (by decide +kernel))) (by decide +kernel)
theorem m_296 : Cond.code yJ0_indexOf_0f7a4 cJ0_indexOf_0f7a4 2 (some .int) ∈ ALL := al_in (al_2 (List.mem_of_getElem? (i := 199) rfl)) rfl
theorem m_297 : Cond.classLink RX10 234 RX0 ∈ ALL := al_in (al_1 (List.mem_of_getElem? (i := 198) (by decide +kernel))) (by decide +kernel)
theorem m_298 : Cond.instantiable RX0 1 ∈ ALL := al_in (al_1 (List.mem_of_getElem? (i := 199) (by decide +kernel))) (by decide +kernel)
theorem m_299 : Cond.classLink RX10 238 RX2 ∈ ALL := al_in (al_1 (List.mem_of_getElem? (i := 212) (by decide +kernel))) (by decide +kernel)
theorem m_300 : Cond.instantiable RX2 1 ∈ ALL := al_in (al_1 (List.mem_of_getElem? (i := 213) (by decide +kernel))) (by decide +kernel)
theorem m_301 : Cond.classLink RX10 241 RX4 ∈ ALL := al_in (al_1 (List.mem_of_getElem? (i := 220) (by decide +kernel))) (by decide +kernel)
theorem m_302 : Cond.instantiable RX4 1 ∈ ALL := al_in (al_1 (List.mem_of_getElem? (i := 221) (by decide +kernel))) (by decide +kernel)
theorem m_303 : Cond.classLink RX10 244 RX8 ∈ ALL := al_in (al_1 (List.mem_of_getElem? (i := 228) (by decide +kernel))) (by decide +kernel)
theorem m_304 : Cond.instantiable RX8 1 ∈ ALL := al_in (al_1 (List.mem_of_getElem? (i := 229) (by decide +kernel))) (by decide +kernel)
theorem m_305 : Cond.classLink RX10 247 RX1 ∈ ALL := al_in (al_1 (List.mem_of_getElem? (i := 236) (by decide +kernel))) (by decide +kernel)
theorem m_306 : Cond.instantiable RX1 1 ∈ ALL := al_in (al_1 (List.mem_of_getElem? (i := 237) (by decide +kernel))) (by decide +kernel)
theorem m_307 : Cond.classLink RX10 78 RX6 ∈ ALL := al_in (al_2 (List.mem_of_getElem? (i := 4) (by decide +kernel))) (by decide +kernel)
theorem m_308 : Cond.instantiable RX6 1 ∈ ALL := al_in (al_2 (List.mem_of_getElem? (i := 5) (by decide +kernel))) (by decide +kernel)
theorem m_309 : Cond.methodLink RX10 236 yX0_init ∈ ALL := al_in (al_1 (List.mem_of_getElem? (i := 200) (by decide +kernel))) (by decide +kernel)
theorem m_310 : Cond.instanceMethod yX0_init ∈ ALL := al_in (al_1 (List.mem_of_getElem? (i := 201) (by decide +kernel))) (by decide +kernel)
theorem m_311 : Cond.methodLink RX10 240 yX2_init ∈ ALL := al_in (al_1 (List.mem_of_getElem? (i := 214) (by decide +kernel))) (by decide +kernel)
theorem m_312 : Cond.instanceMethod yX2_init ∈ ALL := al_in (al_1 (List.mem_of_getElem? (i := 215) (by decide +kernel))) (by decide +kernel)
theorem m_313 : Cond.methodLink RX10 243 yX4_init ∈ ALL := al_in (al_1 (List.mem_of_getElem? (i := 222) (by decide +kernel))) (by decide +kernel)
theorem m_314 : Cond.methodLink RX10 246 yX8_init ∈ ALL := al_in (al_1 (List.mem_of_getElem? (i := 230) (by decide +kernel))) (by decide +kernel)
theorem m_315 : Cond.instanceMethod yX8_init ∈ ALL := al_in (al_1 (List.mem_of_getElem? (i := 231) (by decide +kernel))) (by decide +kernel)
theorem m_316 : Cond.methodLink RX10 249 yX1_init ∈ ALL := al_in (al_1 (List.mem_of_getElem? (i := 238) (by decide +kernel))) (by decide +kernel)
theorem m_317 : Cond.instanceMethod yX1_init ∈ ALL := al_in (al_1 (List.mem_of_getElem? (i := 239) (by decide +kernel))) (by decide +kernel)
theorem m_318 : Cond.methodLink RX10 250 yX6_init ∈ ALL := al_in (al_2 (List.mem_of_getElem? (i := 6) (by decide +kernel))) (by decide +kernel)
theorem m_319 : Cond.code yX10_newPerson cX10_newPerson 2 (some (.object "SeaJar$Plain")) ∈ ALL := al_in (al_1 (List.mem_of_getElem? (i := 197) rfl)) rfl
theorem m_320 : Cond.methodLink RX9 65 yJ0_indexOf_0f7a4 ∈ ALL := al_in (al_2 (List.mem_of_getElem? (i := 196) (by decide +kernel))) (by decide +kernel)
theorem m_321 : Cond.instanceMethod yJ0_indexOf_0f7a4 ∈ ALL := al_in (al_2 (List.mem_of_getElem? (i := 197) (by decide +kernel))) (by decide +kernel)
theorem m_322 : Cond.selects RJ0 yJ0_indexOf_0f7a4 yJ0_indexOf_0f7a4 ∈ ALL := al_in (al_2 (List.mem_of_getElem? (i := 198) (by decide +kernel))) (by decide +kernel)
theorem m_323 : Cond.methodLink RX9 41 yX9_digit ∈ ALL := al_in (al_2 (List.mem_of_getElem? (i := 187) (by decide +kernel))) (by decide +kernel)
theorem m_324 : Cond.instanceMethod yX9_digit ∈ ALL := al_in (al_2 (List.mem_of_getElem? (i := 189) (by decide +kernel))) (by decide +kernel)
theorem m_325 : Cond.selects RX9 yX9_digit yX9_digit ∈ ALL := al_in (al_p (List.mem_of_getElem? (i := 6) (by decide +kernel))) (by decide +kernel)
theorem m_326 : Cond.static yX10_newPerson ∈ ALL := al_in (al_1 (List.mem_of_getElem? (i := 196) (by decide +kernel))) (by decide +kernel)
theorem m_327 : Cond.methodLink RX9 74 yX3_add ∈ ALL := al_in (al_3 (List.mem_of_getElem? (i := 39) (by decide +kernel))) (by decide +kernel)
theorem m_328 : Cond.instanceMethod yX3_add ∈ ALL := al_in (al_2 (List.mem_of_getElem? (i := 10) (by decide +kernel))) (by decide +kernel)
theorem m_329 : Cond.selects RX3 yX3_add yX3_add ∈ ALL := al_in (al_2 (List.mem_of_getElem? (i := 11) (by decide +kernel))) (by decide +kernel)
theorem m_330 : Cond.code yX9_readPerson cX9_readPerson 7 none ∈ ALL := al_in (al_2 (List.mem_of_getElem? (i := 194) rfl)) rfl
theorem m_331 : Cond.fieldLink RX9 29 "SeaJar$House" "needs" "I" ∈ ALL := al_in (al_1 (List.mem_of_getElem? (i := 52) (by decide +kernel))) (by decide +kernel)
theorem m_332 : Cond.fieldLink RX9 38 "SeaJar$House" "price" "I" ∈ ALL := al_in (al_1 (List.mem_of_getElem? (i := 55) (by decide +kernel))) (by decide +kernel)
theorem m_333 : Cond.fieldLink RX9 44 "SeaJar$House" "mishaps" "I" ∈ ALL := al_in (al_1 (List.mem_of_getElem? (i := 58) (by decide +kernel))) (by decide +kernel)
theorem m_334 : Cond.methodLink RX9 25 yX9_number ∈ ALL := al_in (al_2 (List.mem_of_getElem? (i := 163) (by decide +kernel))) (by decide +kernel)
theorem m_335 : Cond.instanceMethod yX9_number ∈ ALL := al_in (al_2 (List.mem_of_getElem? (i := 165) (by decide +kernel))) (by decide +kernel)
theorem m_336 : Cond.selects RX9 yX9_number yX9_number ∈ ALL := al_in (al_p (List.mem_of_getElem? (i := 1) (by decide +kernel))) (by decide +kernel)
theorem m_337 : Cond.methodLink RX9 34 yX9_expect ∈ ALL := al_in (al_2 (List.mem_of_getElem? (i := 179) (by decide +kernel))) (by decide +kernel)
theorem m_338 : Cond.instanceMethod yX9_expect ∈ ALL := al_in (al_2 (List.mem_of_getElem? (i := 181) (by decide +kernel))) (by decide +kernel)
theorem m_339 : Cond.selects RX9 yX9_expect yX9_expect ∈ ALL := al_in (al_p (List.mem_of_getElem? (i := 4) (by decide +kernel))) (by decide +kernel)
theorem m_340 : Cond.methodLink RX9 47 yX9_readPerson ∈ ALL := al_in (al_2 (List.mem_of_getElem? (i := 191) (by decide +kernel))) (by decide +kernel)
theorem m_341 : Cond.instanceMethod yX9_readPerson ∈ ALL := al_in (al_2 (List.mem_of_getElem? (i := 193) (by decide +kernel))) (by decide +kernel)
theorem m_342 : Cond.selects RX9 yX9_readPerson yX9_readPerson ∈ ALL := al_in (al_p (List.mem_of_getElem? (i := 7) (by decide +kernel))) (by decide +kernel)
theorem m_343 : Cond.code yX9_readInto cX9_readInto 4 (some .int) ∈ ALL := al_in (al_2 (List.mem_of_getElem? (i := 162) rfl)) rfl
theorem m_344 : Cond.methodLink RX10 1 objectInit ∈ ALL := al_in (al_1 (List.mem_of_getElem? (i := 26) (by decide +kernel))) (by decide +kernel)
theorem m_345 : Cond.classLink RX10 7 RX3 ∈ ALL := al_in (al_1 (List.mem_of_getElem? (i := 29) (by decide +kernel))) (by decide +kernel)
theorem m_346 : Cond.instantiable RX3 11 ∈ ALL := al_in (al_1 (List.mem_of_getElem? (i := 30) (by decide +kernel))) (by decide +kernel)
theorem m_347 : Cond.fieldLink RX10 10 "SeaJar" "now" "LSeaJar$House;" ∈ ALL := al_in (al_1 (List.mem_of_getElem? (i := 163) (by decide +kernel))) (by decide +kernel)
theorem m_348 : Cond.classLink RX10 16 RX5 ∈ ALL := al_in (al_1 (List.mem_of_getElem? (i := 90) (by decide +kernel))) (by decide +kernel)
theorem m_349 : Cond.instantiable RX5 6 ∈ ALL := al_in (al_1 (List.mem_of_getElem? (i := 91) (by decide +kernel))) (by decide +kernel)
theorem m_350 : Cond.initialized RX5 ∈ ALL := al_in (al_1 (List.mem_of_getElem? (i := 3) (by decide +kernel))) (by decide +kernel)
theorem m_351 : Cond.fieldLink RX10 19 "SeaJar" "past" "LSeaJar$Past;" ∈ ALL := al_in (al_1 (List.mem_of_getElem? (i := 164) (by decide +kernel))) (by decide +kernel)
theorem m_352 : Cond.fieldLink RX10 23 "SeaJar" "imageOfNow" "LSeaJar$House;" ∈ ALL := al_in (al_1 (List.mem_of_getElem? (i := 165) (by decide +kernel))) (by decide +kernel)
theorem m_353 : Cond.fieldLink RX10 26 "SeaJar" "imageOfPast" "LSeaJar$Past;" ∈ ALL := al_in (al_1 (List.mem_of_getElem? (i := 166) (by decide +kernel))) (by decide +kernel)
theorem m_354 : Cond.fieldLink RX10 29 "SeaJar" "hasImage" "Z" ∈ ALL := al_in (al_1 (List.mem_of_getElem? (i := 167) (by decide +kernel))) (by decide +kernel)
theorem m_355 : Cond.fieldLink RX10 33 "SeaJar" "trial" "LSeaJar$House;" ∈ ALL := al_in (al_1 (List.mem_of_getElem? (i := 168) (by decide +kernel))) (by decide +kernel)
theorem m_356 : Cond.classLink RX10 36 RX9 ∈ ALL := al_in (al_1 (List.mem_of_getElem? (i := 116) (by decide +kernel))) (by decide +kernel)
theorem m_357 : Cond.instantiable RX9 4 ∈ ALL := al_in (al_1 (List.mem_of_getElem? (i := 117) (by decide +kernel))) (by decide +kernel)
theorem m_358 : Cond.fieldLink RX10 39 "SeaJar" "tape" "LSeaJar$Tape;" ∈ ALL := al_in (al_1 (List.mem_of_getElem? (i := 169) (by decide +kernel))) (by decide +kernel)
theorem m_359 : Cond.classLink RX10 43 RX7 ∈ ALL := al_in (al_1 (List.mem_of_getElem? (i := 138) (by decide +kernel))) (by decide +kernel)
theorem m_360 : Cond.fieldLink RX10 45 "SeaJar" "rows" "[LSeaJar$Row;" ∈ ALL := al_in (al_1 (List.mem_of_getElem? (i := 170) (by decide +kernel))) (by decide +kernel)
theorem m_361 : Cond.instantiable RX7 4 ∈ ALL := al_in (al_1 (List.mem_of_getElem? (i := 140) (by decide +kernel))) (by decide +kernel)
theorem m_362 : Cond.instanceMethod yX3_init ∈ ALL := al_in (al_1 (List.mem_of_getElem? (i := 32) (by decide +kernel))) (by decide +kernel)
theorem m_363 : Cond.instanceMethod yX5_init ∈ ALL := al_in (al_1 (List.mem_of_getElem? (i := 93) (by decide +kernel))) (by decide +kernel)
theorem m_364 : Cond.instanceMethod yX9_init ∈ ALL := al_in (al_1 (List.mem_of_getElem? (i := 119) (by decide +kernel))) (by decide +kernel)
theorem m_365 : Cond.instanceMethod yX7_init ∈ ALL := al_in (al_1 (List.mem_of_getElem? (i := 142) (by decide +kernel))) (by decide +kernel)
theorem m_366 : Cond.code yX10_init cX10_init 2 none ∈ ALL := al_in (al_1 (List.mem_of_getElem? (i := 25) rfl)) rfl
theorem m_367 : Cond.fieldLink RX10 54 "SeaJar$House" "size" "I" ∈ ALL := al_in (al_1 (List.mem_of_getElem? (i := 43) (by decide +kernel))) (by decide +kernel)
theorem m_368 : Cond.methodLink RX10 50 yX10_within ∈ ALL := al_in (al_1 (List.mem_of_getElem? (i := 192) (by decide +kernel))) (by decide +kernel)
theorem m_369 : Cond.methodLink RX10 58 yX10_newPerson ∈ ALL := al_in (al_1 (List.mem_of_getElem? (i := 195) (by decide +kernel))) (by decide +kernel)
theorem m_370 : Cond.methodLink RX10 62 yX3_add ∈ ALL := al_in (al_2 (List.mem_of_getElem? (i := 9) (by decide +kernel))) (by decide +kernel)
theorem m_371 : Cond.methodLink RX10 66 yX5_forget ∈ ALL := al_in (al_2 (List.mem_of_getElem? (i := 25) (by decide +kernel))) (by decide +kernel)
theorem m_372 : Cond.instanceMethod yX5_forget ∈ ALL := al_in (al_2 (List.mem_of_getElem? (i := 26) (by decide +kernel))) (by decide +kernel)
theorem m_373 : Cond.selects RX5 yX5_forget yX5_forget ∈ ALL := al_in (al_2 (List.mem_of_getElem? (i := 27) (by decide +kernel))) (by decide +kernel)
theorem m_374 : Cond.code yX10_person cX10_person 4 (some .int) ∈ ALL := al_in (al_1 (List.mem_of_getElem? (i := 191) rfl)) rfl
theorem m_375 : Cond.code yX10_isPerson cX10_isPerson 2 (some .boolean) ∈ ALL := al_in (al_2 (List.mem_of_getElem? (i := 36) rfl)) rfl
theorem m_376 : Cond.fieldLink RX10 73 "SeaJar$House" "people" "[LSeaJar$Plain;" ∈ ALL := al_in (al_1 (List.mem_of_getElem? (i := 38) (by decide +kernel))) (by decide +kernel)
theorem m_377 : Cond.fieldLink RX10 83 "SeaJar$Plain" "temper" "I" ∈ ALL := al_in (al_1 (List.mem_of_getElem? (i := 208) (by decide +kernel))) (by decide +kernel)
theorem m_378 : Cond.fieldLink RX10 86 "SeaJar$House" "habits" "[I" ∈ ALL := al_in (al_1 (List.mem_of_getElem? (i := 40) (by decide +kernel))) (by decide +kernel)
theorem m_379 : Cond.fieldLink RX10 90 "SeaJar$House" "hopes" "I" ∈ ALL := al_in (al_1 (List.mem_of_getElem? (i := 45) (by decide +kernel))) (by decide +kernel)
theorem m_380 : Cond.methodLink RX10 69 yX10_isPerson ∈ ALL := al_in (al_2 (List.mem_of_getElem? (i := 33) (by decide +kernel))) (by decide +kernel)
theorem m_381 : Cond.instanceMethod yX10_isPerson ∈ ALL := al_in (al_2 (List.mem_of_getElem? (i := 35) (by decide +kernel))) (by decide +kernel)
theorem m_382 : Cond.selects RX10 yX10_isPerson yX10_isPerson ∈ ALL := al_in (al_p (List.mem_of_getElem? (i := 0) (by decide +kernel))) (by decide +kernel)
theorem m_383 : Cond.methodLink RX10 77 ⟨"SeaJar$Plain", "kind", "()I"⟩ ∈ ALL := al_in (al_2 (List.mem_of_getElem? (i := 37) (by decide +kernel))) (by decide +kernel)
theorem m_384 : Cond.sameMethod "SeaJar$Plain" "SeaJar$Plain" "kind" "()I" ∈ ALL := al_in (al_2 (List.mem_of_getElem? (i := 40) (by decide +kernel))) (by decide +kernel)
theorem m_385 : Cond.instanceMethod ⟨"SeaJar$Plain", "kind", "()I"⟩ ∈ ALL := al_in (al_2 (List.mem_of_getElem? (i := 38) (by decide +kernel))) (by decide +kernel)
theorem m_386 : Cond.selects RX0 ⟨"SeaJar$Plain", "kind", "()I"⟩ yX0_kind ∈ ALL := al_in (al_2 (List.mem_of_getElem? (i := 41) (by decide +kernel))) (by decide +kernel)
theorem m_387 : Cond.instanceMethod yX0_kind ∈ ALL := al_in (al_2 (List.mem_of_getElem? (i := 42) (by decide +kernel))) (by decide +kernel)
theorem m_388 : Cond.selects RX1 ⟨"SeaJar$Plain", "kind", "()I"⟩ yX1_kind ∈ ALL := al_in (al_2 (List.mem_of_getElem? (i := 44) (by decide +kernel))) (by decide +kernel)
theorem m_389 : Cond.instanceMethod yX1_kind ∈ ALL := al_in (al_2 (List.mem_of_getElem? (i := 45) (by decide +kernel))) (by decide +kernel)
theorem m_390 : Cond.selects RX2 ⟨"SeaJar$Plain", "kind", "()I"⟩ yX2_kind ∈ ALL := al_in (al_2 (List.mem_of_getElem? (i := 47) (by decide +kernel))) (by decide +kernel)
theorem m_391 : Cond.instanceMethod yX2_kind ∈ ALL := al_in (al_2 (List.mem_of_getElem? (i := 48) (by decide +kernel))) (by decide +kernel)
theorem m_392 : Cond.selects RX4 ⟨"SeaJar$Plain", "kind", "()I"⟩ yX4_kind ∈ ALL := al_in (al_2 (List.mem_of_getElem? (i := 50) (by decide +kernel))) (by decide +kernel)
theorem m_393 : Cond.instanceMethod yX4_kind ∈ ALL := al_in (al_2 (List.mem_of_getElem? (i := 51) (by decide +kernel))) (by decide +kernel)
theorem m_394 : Cond.selects RX6 yX6_kind yX6_kind ∈ ALL := al_in (al_2 (List.mem_of_getElem? (i := 39) (by decide +kernel))) (by decide +kernel)
theorem m_395 : Cond.selects RX8 ⟨"SeaJar$Plain", "kind", "()I"⟩ yX8_kind ∈ ALL := al_in (al_2 (List.mem_of_getElem? (i := 53) (by decide +kernel))) (by decide +kernel)
theorem m_396 : Cond.instanceMethod yX8_kind ∈ ALL := al_in (al_2 (List.mem_of_getElem? (i := 54) (by decide +kernel))) (by decide +kernel)
theorem m_397 : Cond.methodLink RX10 93 yX3_wordsOf ∈ ALL := al_in (al_2 (List.mem_of_getElem? (i := 57) (by decide +kernel))) (by decide +kernel)
theorem m_398 : Cond.methodLink RX10 97 yX3_paysOf ∈ ALL := al_in (al_2 (List.mem_of_getElem? (i := 91) (by decide +kernel))) (by decide +kernel)
theorem m_399 : Cond.methodLink RX10 100 yX3_habitThenOf ∈ ALL := al_in (al_2 (List.mem_of_getElem? (i := 114) (by decide +kernel))) (by decide +kernel)
theorem m_400 : Cond.instanceMethod yX3_habitThenOf ∈ ALL := al_in (al_2 (List.mem_of_getElem? (i := 115) (by decide +kernel))) (by decide +kernel)
theorem m_401 : Cond.selects RX3 yX3_habitThenOf yX3_habitThenOf ∈ ALL := al_in (al_2 (List.mem_of_getElem? (i := 116) (by decide +kernel))) (by decide +kernel)
theorem m_402 : Cond.code yX10_of cX10_of 3 (some .int) ∈ ALL := al_in (al_2 (List.mem_of_getElem? (i := 32) rfl)) rfl
theorem m_403 : Cond.code yX10_rule cX10_rule 4 (some .int) ∈ ALL := al_in (al_2 (List.mem_of_getElem? (i := 138) rfl)) rfl
theorem m_404 : Cond.fieldLink RX10 103 "SeaJar$House" "needs" "I" ∈ ALL := al_in (al_1 (List.mem_of_getElem? (i := 53) (by decide +kernel))) (by decide +kernel)
theorem m_405 : Cond.fieldLink RX10 106 "SeaJar$House" "price" "I" ∈ ALL := al_in (al_1 (List.mem_of_getElem? (i := 56) (by decide +kernel))) (by decide +kernel)
theorem m_406 : Cond.fieldLink RX10 109 "SeaJar$House" "mishaps" "I" ∈ ALL := al_in (al_1 (List.mem_of_getElem? (i := 59) (by decide +kernel))) (by decide +kernel)
theorem m_407 : Cond.code yX10_hope cX10_hope 4 (some .int) ∈ ALL := al_in (al_2 (List.mem_of_getElem? (i := 142) rfl)) rfl
theorem m_408 : Cond.code yX10_type cX10_type 2 (some .int) ∈ ALL := al_in (al_2 (List.mem_of_getElem? (i := 146) rfl)) rfl
theorem m_409 : Cond.fieldLink RX10 112 "SeaJar$Tape" "length" "I" ∈ ALL := al_in (al_1 (List.mem_of_getElem? (i := 125) (by decide +kernel))) (by decide +kernel)
theorem m_410 : Cond.fieldLink RX10 115 "SeaJar$Tape" "letters" "[C" ∈ ALL := al_in (al_1 (List.mem_of_getElem? (i := 123) (by decide +kernel))) (by decide +kernel)
theorem m_411 : Cond.methodLink RX10 119 yX3_become ∈ ALL := al_in (al_2 (List.mem_of_getElem? (i := 151) (by decide +kernel))) (by decide +kernel)
theorem m_412 : Cond.instanceMethod yX3_become ∈ ALL := al_in (al_2 (List.mem_of_getElem? (i := 152) (by decide +kernel))) (by decide +kernel)
theorem m_413 : Cond.selects RX3 yX3_become yX3_become ∈ ALL := al_in (al_2 (List.mem_of_getElem? (i := 153) (by decide +kernel))) (by decide +kernel)
theorem m_414 : Cond.methodLink RX10 123 yX3_moveOut ∈ ALL := al_in (al_2 (List.mem_of_getElem? (i := 155) (by decide +kernel))) (by decide +kernel)
theorem m_415 : Cond.instanceMethod yX3_moveOut ∈ ALL := al_in (al_2 (List.mem_of_getElem? (i := 156) (by decide +kernel))) (by decide +kernel)
theorem m_416 : Cond.selects RX3 yX3_moveOut yX3_moveOut ∈ ALL := al_in (al_2 (List.mem_of_getElem? (i := 157) (by decide +kernel))) (by decide +kernel)
theorem m_417 : Cond.methodLink RX10 126 yX9_readInto ∈ ALL := al_in (al_2 (List.mem_of_getElem? (i := 159) (by decide +kernel))) (by decide +kernel)
theorem m_418 : Cond.instanceMethod yX9_readInto ∈ ALL := al_in (al_2 (List.mem_of_getElem? (i := 160) (by decide +kernel))) (by decide +kernel)
theorem m_419 : Cond.selects RX9 yX9_readInto yX9_readInto ∈ ALL := al_in (al_2 (List.mem_of_getElem? (i := 161) (by decide +kernel))) (by decide +kernel)
theorem m_420 : Cond.code yX10_house cX10_house 2 (some .int) ∈ ALL := al_in (al_2 (List.mem_of_getElem? (i := 150) rfl)) rfl
theorem m_421 : Cond.fieldLink RX10 130 "SeaJar$House" "week" "I" ∈ ALL := al_in (al_1 (List.mem_of_getElem? (i := 62) (by decide +kernel))) (by decide +kernel)
theorem m_422 : Cond.fieldLink RX10 133 "SeaJar$House" "pence" "I" ∈ ALL := al_in (al_1 (List.mem_of_getElem? (i := 50) (by decide +kernel))) (by decide +kernel)
theorem m_423 : Cond.fieldLink RX10 145 "SeaJar$House" "children" "I" ∈ ALL := al_in (al_1 (List.mem_of_getElem? (i := 47) (by decide +kernel))) (by decide +kernel)
theorem m_424 : Cond.fieldLink RX10 148 "SeaJar$Past" "known" "I" ∈ ALL := al_in (al_1 (List.mem_of_getElem? (i := 101) (by decide +kernel))) (by decide +kernel)
theorem m_425 : Cond.methodLink RX10 136 yX3_withHopes ∈ ALL := al_in (al_3 (List.mem_of_getElem? (i := 45) (by decide +kernel))) (by decide +kernel)
theorem m_426 : Cond.methodLink RX10 139 yX3_wordsOfAll ∈ ALL := al_in (al_3 (List.mem_of_getElem? (i := 46) (by decide +kernel))) (by decide +kernel)
theorem m_427 : Cond.instanceMethod yX3_wordsOfAll ∈ ALL := al_in (al_3 (List.mem_of_getElem? (i := 47) (by decide +kernel))) (by decide +kernel)
theorem m_428 : Cond.selects RX3 yX3_wordsOfAll yX3_wordsOfAll ∈ ALL := al_in (al_3 (List.mem_of_getElem? (i := 48) (by decide +kernel))) (by decide +kernel)
theorem m_429 : Cond.methodLink RX10 142 yX3_paysOfAll ∈ ALL := al_in (al_3 (List.mem_of_getElem? (i := 50) (by decide +kernel))) (by decide +kernel)
theorem m_430 : Cond.instanceMethod yX3_paysOfAll ∈ ALL := al_in (al_3 (List.mem_of_getElem? (i := 51) (by decide +kernel))) (by decide +kernel)
theorem m_431 : Cond.selects RX3 yX3_paysOfAll yX3_paysOfAll ∈ ALL := al_in (al_3 (List.mem_of_getElem? (i := 52) (by decide +kernel))) (by decide +kernel)
theorem m_432 : Cond.code yX10_count cX10_count 2 (some .int) ∈ ALL := al_in (al_3 (List.mem_of_getElem? (i := 44) rfl)) rfl
theorem m_433 : Cond.methodLink RX10 151 yX5_remember ∈ ALL := al_in (al_3 (List.mem_of_getElem? (i := 58) (by decide +kernel))) (by decide +kernel)
theorem m_434 : Cond.instanceMethod yX5_remember ∈ ALL := al_in (al_3 (List.mem_of_getElem? (i := 59) (by decide +kernel))) (by decide +kernel)
theorem m_435 : Cond.selects RX5 yX5_remember yX5_remember ∈ ALL := al_in (al_3 (List.mem_of_getElem? (i := 60) (by decide +kernel))) (by decide +kernel)
theorem m_436 : Cond.methodLink RX10 154 yX3_live ∈ ALL := al_in (al_3 (List.mem_of_getElem? (i := 66) (by decide +kernel))) (by decide +kernel)
theorem m_437 : Cond.code yX10_weeks cX10_weeks 3 (some .int) ∈ ALL := al_in (al_3 (List.mem_of_getElem? (i := 57) rfl)) rfl
theorem m_438 : Cond.code yX10_take cX10_take 2 (some .int) ∈ ALL := al_in (al_3 (List.mem_of_getElem? (i := 74) rfl)) rfl
theorem m_439 : Cond.methodLink RX10 157 yX3_drawMishaps ∈ ALL := al_in (al_3 (List.mem_of_getElem? (i := 79) (by decide +kernel))) (by decide +kernel)
theorem m_440 : Cond.instanceMethod yX3_drawMishaps ∈ ALL := al_in (al_3 (List.mem_of_getElem? (i := 80) (by decide +kernel))) (by decide +kernel)
theorem m_441 : Cond.selects RX3 yX3_drawMishaps yX3_drawMishaps ∈ ALL := al_in (al_3 (List.mem_of_getElem? (i := 81) (by decide +kernel))) (by decide +kernel)
theorem m_442 : Cond.code yX10_drift cX10_drift 4 (some .int) ∈ ALL := al_in (al_3 (List.mem_of_getElem? (i := 78) rfl)) rfl
theorem m_443 : Cond.code yX10_undo cX10_undo 1 (some .int) ∈ ALL := al_in (al_3 (List.mem_of_getElem? (i := 89) rfl)) rfl
theorem m_444 : Cond.methodLink RX10 160 yX5_bringBack ∈ ALL := al_in (al_3 (List.mem_of_getElem? (i := 90) (by decide +kernel))) (by decide +kernel)
theorem m_445 : Cond.instanceMethod yX5_bringBack ∈ ALL := al_in (al_3 (List.mem_of_getElem? (i := 91) (by decide +kernel))) (by decide +kernel)
theorem m_446 : Cond.selects RX5 yX5_bringBack yX5_bringBack ∈ ALL := al_in (al_3 (List.mem_of_getElem? (i := 92) (by decide +kernel))) (by decide +kernel)
theorem m_447 : Cond.code yX10_seed cX10_seed 3 (some .int) ∈ ALL := al_in (al_3 (List.mem_of_getElem? (i := 97) rfl)) rfl
theorem m_448 : Cond.fieldLink RX10 163 "SeaJar$House" "draw" "I" ∈ ALL := al_in (al_1 (List.mem_of_getElem? (i := 65) (by decide +kernel))) (by decide +kernel)
theorem m_449 : Cond.methodLink RX10 166 yX3_wordsInLast ∈ ALL := al_in (al_3 (List.mem_of_getElem? (i := 102) (by decide +kernel))) (by decide +kernel)
theorem m_450 : Cond.instanceMethod yX3_wordsInLast ∈ ALL := al_in (al_3 (List.mem_of_getElem? (i := 103) (by decide +kernel))) (by decide +kernel)
theorem m_451 : Cond.selects RX3 yX3_wordsInLast yX3_wordsInLast ∈ ALL := al_in (al_3 (List.mem_of_getElem? (i := 104) (by decide +kernel))) (by decide +kernel)
theorem m_452 : Cond.methodLink RX10 169 yX3_liveOn ∈ ALL := al_in (al_3 (List.mem_of_getElem? (i := 107) (by decide +kernel))) (by decide +kernel)
theorem m_453 : Cond.instanceMethod yX3_liveOn ∈ ALL := al_in (al_3 (List.mem_of_getElem? (i := 108) (by decide +kernel))) (by decide +kernel)
theorem m_454 : Cond.selects RX3 yX3_liveOn yX3_liveOn ∈ ALL := al_in (al_3 (List.mem_of_getElem? (i := 109) (by decide +kernel))) (by decide +kernel)
theorem m_455 : Cond.code yX10_ahead cX10_ahead 4 (some .int) ∈ ALL := al_in (al_3 (List.mem_of_getElem? (i := 101) rfl)) rfl
theorem m_456 : Cond.code yX10_due cX10_due 2 (some .int) ∈ ALL := al_in (al_3 (List.mem_of_getElem? (i := 114) rfl)) rfl
theorem m_457 : Cond.code yX10_tryPrice cX10_tryPrice 2 none ∈ ALL := al_in (al_3 (List.mem_of_getElem? (i := 122) rfl)) rfl
theorem m_458 : Cond.methodLink RX10 172 yX10_tryPrice ∈ ALL := al_in (al_3 (List.mem_of_getElem? (i := 119) (by decide +kernel))) (by decide +kernel)
theorem m_459 : Cond.instanceMethod yX10_tryPrice ∈ ALL := al_in (al_3 (List.mem_of_getElem? (i := 121) (by decide +kernel))) (by decide +kernel)
theorem m_460 : Cond.selects RX10 yX10_tryPrice yX10_tryPrice ∈ ALL := al_in (al_p (List.mem_of_getElem? (i := 8) (by decide +kernel))) (by decide +kernel)
theorem m_461 : Cond.code yX10_dearest cX10_dearest 6 (some .int) ∈ ALL := al_in (al_3 (List.mem_of_getElem? (i := 118) rfl)) rfl
theorem m_462 : Cond.code yX10_quiet cX10_quiet 7 (some .int) ∈ ALL := al_in (al_3 (List.mem_of_getElem? (i := 126) rfl)) rfl
theorem m_463 : Cond.code yX10_ends cX10_ends 3 (some .int) ∈ ALL := al_in (al_3 (List.mem_of_getElem? (i := 130) rfl)) rfl
theorem m_464 : Cond.code yX10_oneNearer cX10_oneNearer 2 (some .int) ∈ ALL := al_in (al_3 (List.mem_of_getElem? (i := 137) rfl)) rfl
theorem m_465 : Cond.methodLink RX10 176 yX10_oneNearer ∈ ALL := al_in (al_3 (List.mem_of_getElem? (i := 135) (by decide +kernel))) (by decide +kernel)
theorem m_466 : Cond.static yX10_oneNearer ∈ ALL := al_in (al_3 (List.mem_of_getElem? (i := 136) (by decide +kernel))) (by decide +kernel)
theorem m_467 : Cond.code yX10_raised cX10_raised 6 (some .int) ∈ ALL := al_in (al_3 (List.mem_of_getElem? (i := 134) rfl)) rfl
theorem m_468 : Cond.code yX10_hoped cX10_hoped 6 (some .int) ∈ ALL := al_in (al_3 (List.mem_of_getElem? (i := 141) rfl)) rfl
theorem m_469 : Cond.code yX10_penceByLuck cX10_penceByLuck 5 (some .int) ∈ ALL := al_in (al_3 (List.mem_of_getElem? (i := 149) rfl)) rfl
theorem m_470 : Cond.methodLink RX10 180 yX10_penceByLuck ∈ ALL := al_in (al_3 (List.mem_of_getElem? (i := 146) (by decide +kernel))) (by decide +kernel)
theorem m_471 : Cond.instanceMethod yX10_penceByLuck ∈ ALL := al_in (al_3 (List.mem_of_getElem? (i := 148) (by decide +kernel))) (by decide +kernel)
theorem m_472 : Cond.selects RX10 yX10_penceByLuck yX10_penceByLuck ∈ ALL := al_in (al_p (List.mem_of_getElem? (i := 9) (by decide +kernel))) (by decide +kernel)
theorem m_473 : Cond.code yX10_mean cX10_mean 6 (some .int) ∈ ALL := al_in (al_3 (List.mem_of_getElem? (i := 145) rfl)) rfl
theorem m_474 : Cond.methodLink RX10 183 yX5_become ∈ ALL := al_in (al_3 (List.mem_of_getElem? (i := 154) (by decide +kernel))) (by decide +kernel)
theorem m_475 : Cond.instanceMethod yX5_become ∈ ALL := al_in (al_3 (List.mem_of_getElem? (i := 155) (by decide +kernel))) (by decide +kernel)
theorem m_476 : Cond.selects RX5 yX5_become yX5_become ∈ ALL := al_in (al_3 (List.mem_of_getElem? (i := 156) (by decide +kernel))) (by decide +kernel)
theorem m_477 : Cond.code yX10_image cX10_image 1 (some .int) ∈ ALL := al_in (al_3 (List.mem_of_getElem? (i := 153) rfl)) rfl
theorem m_478 : Cond.code yX10_restore cX10_restore 1 (some .int) ∈ ALL := al_in (al_3 (List.mem_of_getElem? (i := 161) rfl)) rfl
theorem m_479 : Cond.code yX10_isSheet cX10_isSheet 1 (some .boolean) ∈ ALL := al_in (al_3 (List.mem_of_getElem? (i := 168) rfl)) rfl
theorem m_480 : Cond.code yX10_isLane cX10_isLane 1 (some .boolean) ∈ ALL := al_in (al_3 (List.mem_of_getElem? (i := 171) rfl)) rfl
theorem m_481 : Cond.code yX10_tryPence cX10_tryPence 2 none ∈ ALL := al_in (al_3 (List.mem_of_getElem? (i := 188) rfl)) rfl
theorem m_482 : Cond.fieldLink RX10 224 "SeaJar$Row" "items" "[J" ∈ ALL := al_in (al_1 (List.mem_of_getElem? (i := 146) (by decide +kernel))) (by decide +kernel)
theorem m_483 : Cond.methodLink RX10 251 yX10_tryPence ∈ ALL := al_in (al_3 (List.mem_of_getElem? (i := 185) (by decide +kernel))) (by decide +kernel)
theorem m_484 : Cond.instanceMethod yX10_tryPence ∈ ALL := al_in (al_3 (List.mem_of_getElem? (i := 187) (by decide +kernel))) (by decide +kernel)
theorem m_485 : Cond.selects RX10 yX10_tryPence yX10_tryPence ∈ ALL := al_in (al_p (List.mem_of_getElem? (i := 11) (by decide +kernel))) (by decide +kernel)
theorem m_486 : Cond.code yX10_gives cX10_gives 6 (some .boolean) ∈ ALL := al_in (al_3 (List.mem_of_getElem? (i := 194) rfl)) rfl
theorem m_487 : Cond.constantLong RX10 254 (9999) ∈ ALL := al_in (al_3 (List.mem_of_getElem? (i := 189) (by decide +kernel))) (by decide +kernel)
theorem m_488 : Cond.methodLink RX10 256 Lib.Math.max.name ∈ ALL := al_in (al_3 (List.mem_of_getElem? (i := 190) (by decide +kernel))) (by decide +kernel)
theorem m_489 : Cond.methodLink RX10 259 yX10_gives ∈ ALL := al_in (al_3 (List.mem_of_getElem? (i := 191) (by decide +kernel))) (by decide +kernel)
theorem m_490 : Cond.instanceMethod yX10_gives ∈ ALL := al_in (al_3 (List.mem_of_getElem? (i := 193) (by decide +kernel))) (by decide +kernel)
theorem m_491 : Cond.selects RX10 yX10_gives yX10_gives ∈ ALL := al_in (al_p (List.mem_of_getElem? (i := 12) (by decide +kernel))) (by decide +kernel)
theorem m_492 : Cond.code yX10_starts cX10_starts 15 (some .int) ∈ ALL := al_in (al_3 (List.mem_of_getElem? (i := 184) rfl)) rfl
theorem m_493 : Cond.methodLink RX10 196 Lib.Math.min.name ∈ ALL := al_in (al_3 (List.mem_of_getElem? (i := 180) (by decide +kernel))) (by decide +kernel)
theorem m_494 : Cond.methodLink RX10 186 yX10_isSheet ∈ ALL := al_in (al_3 (List.mem_of_getElem? (i := 166) (by decide +kernel))) (by decide +kernel)
theorem m_495 : Cond.static yX10_isSheet ∈ ALL := al_in (al_3 (List.mem_of_getElem? (i := 167) (by decide +kernel))) (by decide +kernel)
theorem m_496 : Cond.methodLink RX10 189 yX10_isLane ∈ ALL := al_in (al_3 (List.mem_of_getElem? (i := 169) (by decide +kernel))) (by decide +kernel)
theorem m_497 : Cond.static yX10_isLane ∈ ALL := al_in (al_3 (List.mem_of_getElem? (i := 170) (by decide +kernel))) (by decide +kernel)
theorem m_498 : Cond.methodLink RX10 192 yX7_refuses ∈ ALL := al_in (al_3 (List.mem_of_getElem? (i := 172) (by decide +kernel))) (by decide +kernel)
theorem m_499 : Cond.instanceMethod yX7_refuses ∈ ALL := al_in (al_3 (List.mem_of_getElem? (i := 173) (by decide +kernel))) (by decide +kernel)
theorem m_500 : Cond.selects RX7 yX7_refuses yX7_refuses ∈ ALL := al_in (al_3 (List.mem_of_getElem? (i := 174) (by decide +kernel))) (by decide +kernel)
theorem m_501 : Cond.methodLink RX10 201 yX10_starts ∈ ALL := al_in (al_3 (List.mem_of_getElem? (i := 181) (by decide +kernel))) (by decide +kernel)
theorem m_502 : Cond.instanceMethod yX10_starts ∈ ALL := al_in (al_3 (List.mem_of_getElem? (i := 183) (by decide +kernel))) (by decide +kernel)
theorem m_503 : Cond.selects RX10 yX10_starts yX10_starts ∈ ALL := al_in (al_p (List.mem_of_getElem? (i := 10) (by decide +kernel))) (by decide +kernel)
theorem m_504 : Cond.code yX10_taken cX10_taken 10 (some .int) ∈ ALL := al_in (al_3 (List.mem_of_getElem? (i := 165) rfl)) rfl
theorem m_505 : Cond.methodLink RX10 205 yX7_put ∈ ALL := al_in (al_3 (List.mem_of_getElem? (i := 199) (by decide +kernel))) (by decide +kernel)
theorem m_506 : Cond.instanceMethod yX7_put ∈ ALL := al_in (al_3 (List.mem_of_getElem? (i := 200) (by decide +kernel))) (by decide +kernel)
theorem m_507 : Cond.selects RX7 yX7_put yX7_put ∈ ALL := al_in (al_3 (List.mem_of_getElem? (i := 201) (by decide +kernel))) (by decide +kernel)
theorem m_508 : Cond.code yX10_film cX10_film 8 (some .int) ∈ ALL := al_in (al_3 (List.mem_of_getElem? (i := 198) rfl)) rfl
theorem m_509 : Cond.code yX10_sheet cX10_sheet 4 (some .int) ∈ ALL := al_in (al_3 (List.mem_of_getElem? (i := 206) rfl)) rfl
theorem m_510 : Cond.methodLink RX10 209 yX7_begin ∈ ALL := al_in (al_3 (List.mem_of_getElem? (i := 207) (by decide +kernel))) (by decide +kernel)
theorem m_511 : Cond.instanceMethod yX7_begin ∈ ALL := al_in (al_3 (List.mem_of_getElem? (i := 208) (by decide +kernel))) (by decide +kernel)
theorem m_512 : Cond.selects RX7 yX7_begin yX7_begin ∈ ALL := al_in (al_3 (List.mem_of_getElem? (i := 209) (by decide +kernel))) (by decide +kernel)
theorem m_513 : Cond.code yX10_drop cX10_drop 3 (some .int) ∈ ALL := al_in (al_3 (List.mem_of_getElem? (i := 214) rfl)) rfl
theorem m_514 : Cond.fieldLink RX10 213 "SeaJar$Row" "held" "Z" ∈ ALL := al_in (al_1 (List.mem_of_getElem? (i := 148) (by decide +kernel))) (by decide +kernel)
theorem m_515 : Cond.fieldLink RX10 216 "SeaJar$Row" "size" "I" ∈ ALL := al_in (al_1 (List.mem_of_getElem? (i := 152) (by decide +kernel))) (by decide +kernel)
theorem m_516 : Cond.code yX10_item cX10_item 8 (some .int) ∈ ALL := al_in (al_3 (List.mem_of_getElem? (i := 218) rfl)) rfl
theorem m_517 : Cond.code yX10_copy cX10_copy 8 (some .int) ∈ ALL := al_in (al_3 (List.mem_of_getElem? (i := 222) rfl)) rfl
theorem m_518 : Cond.fieldLink RX10 217 "SeaJar$Row" "lane" "I" ∈ ALL := al_in (al_1 (List.mem_of_getElem? (i := 150) (by decide +kernel))) (by decide +kernel)
theorem m_519 : Cond.methodLink RX10 228 arraycopyName ∈ ALL := al_in (al_3 (List.mem_of_getElem? (i := 224) (by decide +kernel))) (by decide +kernel)
theorem m_520 : Cond.methodLink RX10 220 yX7_lacks ∈ ALL := al_in (al_3 (List.mem_of_getElem? (i := 223) (by decide +kernel))) (by decide +kernel)
theorem m_521 : Cond.code yX11_init cX11_init 1 none ∈ ALL := al_in (al_3 (List.mem_of_getElem? (i := 229) rfl)) rfl
theorem m_522 : Cond.methodLink RX11 1 objectInit ∈ ALL := al_in (al_3 (List.mem_of_getElem? (i := 230) (by decide +kernel))) (by decide +kernel)
theorem m_523 : Cond.fieldLink RX11 7 "SeaJarModel" "jar" "[I" ∈ ALL := al_in (al_3 (List.mem_of_getElem? (i := 231) (by decide +kernel))) (by decide +kernel)
theorem m_524 : Cond.fieldLink RX11 13 "SeaJarModel" "then" "[I" ∈ ALL := al_in (al_3 (List.mem_of_getElem? (i := 232) (by decide +kernel))) (by decide +kernel)
theorem m_525 : Cond.fieldLink RX11 16 "SeaJarModel" "fresh" "[I" ∈ ALL := al_in (al_3 (List.mem_of_getElem? (i := 233) (by decide +kernel))) (by decide +kernel)
theorem m_526 : Cond.fieldLink RX11 19 "SeaJarModel" "past" "[I" ∈ ALL := al_in (al_3 (List.mem_of_getElem? (i := 234) (by decide +kernel))) (by decide +kernel)
theorem m_527 : Cond.fieldLink RX11 22 "SeaJarModel" "kept" "[I" ∈ ALL := al_in (al_3 (List.mem_of_getElem? (i := 236) (by decide +kernel))) (by decide +kernel)
theorem m_528 : Cond.fieldLink RX11 25 "SeaJarModel" "keptPast" "[I" ∈ ALL := al_in (al_3 (List.mem_of_getElem? (i := 237) (by decide +kernel))) (by decide +kernel)
theorem m_529 : Cond.fieldLink RX11 28 "SeaJarModel" "tape" "[I" ∈ ALL := al_in (al_4 (List.mem_of_getElem? (i := 0) (by decide +kernel))) (by decide +kernel)
theorem m_530 : Cond.arrayClass .boolean ∈ ALL := al_in (al_4 (List.mem_of_getElem? (i := 58) (by decide +kernel))) (by decide +kernel)
theorem m_531 : Cond.fieldLink RX11 31 "SeaJarModel" "isSheet" "[Z" ∈ ALL := al_in (al_4 (List.mem_of_getElem? (i := 8) (by decide +kernel))) (by decide +kernel)
theorem m_532 : Cond.fieldLink RX11 35 "SeaJarModel" "lane" "[I" ∈ ALL := al_in (al_4 (List.mem_of_getElem? (i := 9) (by decide +kernel))) (by decide +kernel)
theorem m_533 : Cond.fieldLink RX11 38 "SeaJarModel" "many" "[I" ∈ ALL := al_in (al_4 (List.mem_of_getElem? (i := 10) (by decide +kernel))) (by decide +kernel)
theorem m_534 : Cond.fieldLink RX11 41 "SeaJarModel" "items" "[J" ∈ ALL := al_in (al_4 (List.mem_of_getElem? (i := 11) (by decide +kernel))) (by decide +kernel)
theorem m_535 : Cond.fieldLink RX11 45 "SeaJarModel" "lent" "[J" ∈ ALL := al_in (al_4 (List.mem_of_getElem? (i := 12) (by decide +kernel))) (by decide +kernel)
theorem m_536 : Cond.code yX11_in cX11_in 6 (some .boolean) ∈ ALL := al_in (al_4 (List.mem_of_getElem? (i := 66) rfl)) rfl
theorem m_537 : Cond.code yX11_lay cX11_lay 3 none ∈ ALL := al_in (al_4 (List.mem_of_getElem? (i := 155) rfl)) rfl
theorem m_538 : Cond.code yX11_isPerson cX11_isPerson 2 (some .boolean) ∈ ALL := al_in (al_4 (List.mem_of_getElem? (i := 76) rfl)) rfl
theorem m_539 : Cond.methodLink RX11 52 yX11_in ∈ ALL := al_in (al_4 (List.mem_of_getElem? (i := 64) (by decide +kernel))) (by decide +kernel)
theorem m_540 : Cond.static yX11_in ∈ ALL := al_in (al_4 (List.mem_of_getElem? (i := 65) (by decide +kernel))) (by decide +kernel)
theorem m_541 : Cond.initialized RX11 ∈ ALL := al_in (al_1 (List.mem_of_getElem? (i := 6) (by decide +kernel))) (by decide +kernel)
theorem m_542 : Cond.code yX11_its cX11_its 3 (some .int) ∈ ALL := al_in (al_4 (List.mem_of_getElem? (i := 86) rfl)) rfl
theorem m_543 : Cond.code yX11_hoping cX11_hoping 3 (some .int) ∈ ALL := al_in (al_4 (List.mem_of_getElem? (i := 83) rfl)) rfl
theorem m_544 : Cond.methodLink RX11 56 yX11_its ∈ ALL := al_in (al_4 (List.mem_of_getElem? (i := 84) (by decide +kernel))) (by decide +kernel)
theorem m_545 : Cond.static yX11_its ∈ ALL := al_in (al_4 (List.mem_of_getElem? (i := 85) (by decide +kernel))) (by decide +kernel)
theorem m_546 : Cond.code yX11_bits cX11_bits 3 (some .int) ∈ ALL := al_in (al_4 (List.mem_of_getElem? (i := 89) rfl)) rfl
theorem m_547 : Cond.code yX11_mishapsOf cX11_mishapsOf 2 (some .int) ∈ ALL := al_in (al_4 (List.mem_of_getElem? (i := 80) rfl)) rfl
theorem m_548 : Cond.methodLink RX11 60 yX11_hoping ∈ ALL := al_in (al_4 (List.mem_of_getElem? (i := 81) (by decide +kernel))) (by decide +kernel)
theorem m_549 : Cond.static yX11_hoping ∈ ALL := al_in (al_4 (List.mem_of_getElem? (i := 82) (by decide +kernel))) (by decide +kernel)
theorem m_550 : Cond.methodLink RX11 64 yX11_bits ∈ ALL := al_in (al_4 (List.mem_of_getElem? (i := 87) (by decide +kernel))) (by decide +kernel)
theorem m_551 : Cond.static yX11_bits ∈ ALL := al_in (al_4 (List.mem_of_getElem? (i := 88) (by decide +kernel))) (by decide +kernel)
theorem m_552 : Cond.code yX11_wordsOf cX11_wordsOf 4 (some .int) ∈ ALL := al_in (al_4 (List.mem_of_getElem? (i := 92) rfl)) rfl
theorem m_553 : Cond.code yX11_paysOf cX11_paysOf 4 (some .int) ∈ ALL := al_in (al_4 (List.mem_of_getElem? (i := 95) rfl)) rfl
theorem m_554 : Cond.methodLink RX11 68 yX11_wordsOf ∈ ALL := al_in (al_4 (List.mem_of_getElem? (i := 90) (by decide +kernel))) (by decide +kernel)
theorem m_555 : Cond.static yX11_wordsOf ∈ ALL := al_in (al_4 (List.mem_of_getElem? (i := 91) (by decide +kernel))) (by decide +kernel)
theorem m_556 : Cond.code yX11_habitThen cX11_habitThen 6 (some .int) ∈ ALL := al_in (al_4 (List.mem_of_getElem? (i := 98) rfl)) rfl
theorem m_557 : Cond.methodLink RX11 71 yX11_paysOf ∈ ALL := al_in (al_4 (List.mem_of_getElem? (i := 93) (by decide +kernel))) (by decide +kernel)
theorem m_558 : Cond.static yX11_paysOf ∈ ALL := al_in (al_4 (List.mem_of_getElem? (i := 94) (by decide +kernel))) (by decide +kernel)
theorem m_559 : Cond.code yX11_allWords cX11_allWords 4 (some .int) ∈ ALL := al_in (al_4 (List.mem_of_getElem? (i := 162) rfl)) rfl
theorem m_560 : Cond.code yX11_allPay cX11_allPay 4 (some .int) ∈ ALL := al_in (al_4 (List.mem_of_getElem? (i := 165) rfl)) rfl
theorem m_561 : Cond.methodLink RX11 74 yX11_mishapsOf ∈ ALL := al_in (al_4 (List.mem_of_getElem? (i := 78) (by decide +kernel))) (by decide +kernel)
theorem m_562 : Cond.static yX11_mishapsOf ∈ ALL := al_in (al_4 (List.mem_of_getElem? (i := 79) (by decide +kernel))) (by decide +kernel)
theorem m_563 : Cond.methodLink RX11 78 yX11_allWords ∈ ALL := al_in (al_4 (List.mem_of_getElem? (i := 160) (by decide +kernel))) (by decide +kernel)
theorem m_564 : Cond.static yX11_allWords ∈ ALL := al_in (al_4 (List.mem_of_getElem? (i := 161) (by decide +kernel))) (by decide +kernel)
theorem m_565 : Cond.methodLink RX11 81 yX11_allPay ∈ ALL := al_in (al_4 (List.mem_of_getElem? (i := 163) (by decide +kernel))) (by decide +kernel)
theorem m_566 : Cond.static yX11_allPay ∈ ALL := al_in (al_4 (List.mem_of_getElem? (i := 164) (by decide +kernel))) (by decide +kernel)
theorem m_567 : Cond.methodLink RX11 84 yX11_habitThen ∈ ALL := al_in (al_4 (List.mem_of_getElem? (i := 96) (by decide +kernel))) (by decide +kernel)
theorem m_568 : Cond.static yX11_habitThen ∈ ALL := al_in (al_4 (List.mem_of_getElem? (i := 97) (by decide +kernel))) (by decide +kernel)
theorem m_569 : Cond.code yX11_week cX11_week 6 (some .int) ∈ ALL := al_in (al_4 (List.mem_of_getElem? (i := 177) rfl)) rfl
theorem m_570 : Cond.fieldLink RX11 87 "SeaJarModel" "last" "I" ∈ ALL := al_in (al_4 (List.mem_of_getElem? (i := 3) (by decide +kernel))) (by decide +kernel)
theorem m_571 : Cond.fieldLink RX11 90 "SeaJarModel" "words" "I" ∈ ALL := al_in (al_4 (List.mem_of_getElem? (i := 4) (by decide +kernel))) (by decide +kernel)
theorem m_572 : Cond.methodLink RX11 93 yX11_week ∈ ALL := al_in (al_4 (List.mem_of_getElem? (i := 175) (by decide +kernel))) (by decide +kernel)
theorem m_573 : Cond.static yX11_week ∈ ALL := al_in (al_4 (List.mem_of_getElem? (i := 176) (by decide +kernel))) (by decide +kernel)
theorem m_574 : Cond.code yX11_weeksOf cX11_weeksOf 3 none ∈ ALL := al_in (al_4 (List.mem_of_getElem? (i := 206) rfl)) rfl
theorem m_575 : Cond.code yX11_person cX11_person 5 (some .int) ∈ ALL := al_in (al_4 (List.mem_of_getElem? (i := 62) rfl)) rfl
theorem m_576 : Cond.fieldLink RX11 48 "SeaJarModel" "thrown" "I" ∈ ALL := al_in (al_4 (List.mem_of_getElem? (i := 2) (by decide +kernel))) (by decide +kernel)
theorem m_577 : Cond.constantLong RX11 96 (5) ∈ ALL := al_in (al_4 (List.mem_of_getElem? (i := 63) (by decide +kernel))) (by decide +kernel)
theorem m_578 : Cond.constantLong RX11 98 (9) ∈ ALL := al_in (al_4 (List.mem_of_getElem? (i := 67) (by decide +kernel))) (by decide +kernel)
theorem m_579 : Cond.constantLong RX11 100 (99) ∈ ALL := al_in (al_4 (List.mem_of_getElem? (i := 68) (by decide +kernel))) (by decide +kernel)
theorem m_580 : Cond.fieldLink RX11 102 "SeaJarModel" "undone" "I" ∈ ALL := al_in (al_3 (List.mem_of_getElem? (i := 235) (by decide +kernel))) (by decide +kernel)
theorem m_581 : Cond.constantLong RX11 109 (6) ∈ ALL := al_in (al_4 (List.mem_of_getElem? (i := 77) (by decide +kernel))) (by decide +kernel)
theorem m_582 : Cond.methodLink RX11 105 yX11_isPerson ∈ ALL := al_in (al_4 (List.mem_of_getElem? (i := 73) (by decide +kernel))) (by decide +kernel)
theorem m_583 : Cond.instanceMethod yX11_isPerson ∈ ALL := al_in (al_4 (List.mem_of_getElem? (i := 75) (by decide +kernel))) (by decide +kernel)
theorem m_584 : Cond.selects RX11 yX11_isPerson yX11_isPerson ∈ ALL := al_in (al_p (List.mem_of_getElem? (i := 13) (by decide +kernel))) (by decide +kernel)
theorem m_585 : Cond.code yX11_of cX11_of 4 (some .int) ∈ ALL := al_in (al_4 (List.mem_of_getElem? (i := 72) rfl)) rfl
theorem m_586 : Cond.code yX11_rule cX11_rule 5 (some .int) ∈ ALL := al_in (al_4 (List.mem_of_getElem? (i := 102) rfl)) rfl
theorem m_587 : Cond.constantLong RX11 111 (9999) ∈ ALL := al_in (al_4 (List.mem_of_getElem? (i := 103) (by decide +kernel))) (by decide +kernel)
theorem m_588 : Cond.constantLong RX11 113 (100) ∈ ALL := al_in (al_4 (List.mem_of_getElem? (i := 104) (by decide +kernel))) (by decide +kernel)
theorem m_589 : Cond.code yX11_hope cX11_hope 4 (some .int) ∈ ALL := al_in (al_4 (List.mem_of_getElem? (i := 108) rfl)) rfl
theorem m_590 : Cond.code yX11_type cX11_type 2 (some .int) ∈ ALL := al_in (al_4 (List.mem_of_getElem? (i := 112) rfl)) rfl
theorem m_591 : Cond.constantLong RX11 115 (32) ∈ ALL := al_in (al_4 (List.mem_of_getElem? (i := 113) (by decide +kernel))) (by decide +kernel)
theorem m_592 : Cond.constantLong RX11 117 (126) ∈ ALL := al_in (al_4 (List.mem_of_getElem? (i := 114) (by decide +kernel))) (by decide +kernel)
theorem m_593 : Cond.fieldLink RX11 119 "SeaJarModel" "taped" "I" ∈ ALL := al_in (al_4 (List.mem_of_getElem? (i := 1) (by decide +kernel))) (by decide +kernel)
theorem m_594 : Cond.code yX11_blanks cX11_blanks 1 none ∈ ALL := al_in (al_4 (List.mem_of_getElem? (i := 126) rfl)) rfl
theorem m_595 : Cond.fieldLink RX11 122 "SeaJarModel" "cursor" "I" ∈ ALL := al_in (al_4 (List.mem_of_getElem? (i := 5) (by decide +kernel))) (by decide +kernel)
theorem m_596 : Cond.code yX11_bad cX11_bad 2 none ∈ ALL := al_in (al_4 (List.mem_of_getElem? (i := 132) rfl)) rfl
theorem m_597 : Cond.fieldLink RX11 125 "SeaJarModel" "isFault" "Z" ∈ ALL := al_in (al_4 (List.mem_of_getElem? (i := 6) (by decide +kernel))) (by decide +kernel)
theorem m_598 : Cond.fieldLink RX11 129 "SeaJarModel" "faultAt" "I" ∈ ALL := al_in (al_4 (List.mem_of_getElem? (i := 7) (by decide +kernel))) (by decide +kernel)
theorem m_599 : Cond.code yX11_isNext cX11_isNext 2 (some .boolean) ∈ ALL := al_in (al_4 (List.mem_of_getElem? (i := 140) rfl)) rfl
theorem m_600 : Cond.methodLink RX11 132 yX11_blanks ∈ ALL := al_in (al_4 (List.mem_of_getElem? (i := 123) (by decide +kernel))) (by decide +kernel)
theorem m_601 : Cond.instanceMethod yX11_blanks ∈ ALL := al_in (al_4 (List.mem_of_getElem? (i := 125) (by decide +kernel))) (by decide +kernel)
theorem m_602 : Cond.selects RX11 yX11_blanks yX11_blanks ∈ ALL := al_in (al_p (List.mem_of_getElem? (i := 15) (by decide +kernel))) (by decide +kernel)
theorem m_603 : Cond.code yX11_must cX11_must 2 none ∈ ALL := al_in (al_4 (List.mem_of_getElem? (i := 136) rfl)) rfl
theorem m_604 : Cond.methodLink RX11 135 yX11_isNext ∈ ALL := al_in (al_4 (List.mem_of_getElem? (i := 137) (by decide +kernel))) (by decide +kernel)
theorem m_605 : Cond.instanceMethod yX11_isNext ∈ ALL := al_in (al_4 (List.mem_of_getElem? (i := 139) (by decide +kernel))) (by decide +kernel)
theorem m_606 : Cond.selects RX11 yX11_isNext yX11_isNext ∈ ALL := al_in (al_p (List.mem_of_getElem? (i := 18) (by decide +kernel))) (by decide +kernel)
theorem m_607 : Cond.methodLink RX11 138 yX11_bad ∈ ALL := al_in (al_4 (List.mem_of_getElem? (i := 129) (by decide +kernel))) (by decide +kernel)
theorem m_608 : Cond.instanceMethod yX11_bad ∈ ALL := al_in (al_4 (List.mem_of_getElem? (i := 131) (by decide +kernel))) (by decide +kernel)
theorem m_609 : Cond.selects RX11 yX11_bad yX11_bad ∈ ALL := al_in (al_p (List.mem_of_getElem? (i := 16) (by decide +kernel))) (by decide +kernel)
theorem m_610 : Cond.code yX11_digit cX11_digit 4 (some .int) ∈ ALL := al_in (al_4 (List.mem_of_getElem? (i := 144) rfl)) rfl
theorem m_611 : Cond.constantLong RX11 142 (57) ∈ ALL := al_in (al_4 (List.mem_of_getElem? (i := 128) (by decide +kernel))) (by decide +kernel)
theorem m_612 : Cond.code yX11_number cX11_number 4 (some .int) ∈ ALL := al_in (al_4 (List.mem_of_getElem? (i := 122) rfl)) rfl
theorem m_613 : Cond.constantLong RX11 144 (48) ∈ ALL := al_in (al_4 (List.mem_of_getElem? (i := 127) (by decide +kernel))) (by decide +kernel)
theorem m_614 : Cond.code yX11_kindBy cX11_kindBy 2 (some .int) ∈ ALL := al_in (al_4 (List.mem_of_getElem? (i := 152) rfl)) rfl
theorem m_615 : Cond.methodLink RX11 146 yX11_kindBy ∈ ALL := al_in (al_4 (List.mem_of_getElem? (i := 149) (by decide +kernel))) (by decide +kernel)
theorem m_616 : Cond.instanceMethod yX11_kindBy ∈ ALL := al_in (al_4 (List.mem_of_getElem? (i := 151) (by decide +kernel))) (by decide +kernel)
theorem m_617 : Cond.selects RX11 yX11_kindBy yX11_kindBy ∈ ALL := al_in (al_p (List.mem_of_getElem? (i := 21) (by decide +kernel))) (by decide +kernel)
theorem m_618 : Cond.methodLink RX11 150 yX11_digit ∈ ALL := al_in (al_4 (List.mem_of_getElem? (i := 141) (by decide +kernel))) (by decide +kernel)
theorem m_619 : Cond.instanceMethod yX11_digit ∈ ALL := al_in (al_4 (List.mem_of_getElem? (i := 143) (by decide +kernel))) (by decide +kernel)
theorem m_620 : Cond.selects RX11 yX11_digit yX11_digit ∈ ALL := al_in (al_p (List.mem_of_getElem? (i := 19) (by decide +kernel))) (by decide +kernel)
theorem m_621 : Cond.code yX11_readPerson cX11_readPerson 7 none ∈ ALL := al_in (al_4 (List.mem_of_getElem? (i := 148) rfl)) rfl
theorem m_622 : Cond.methodLink RX11 153 yX11_number ∈ ALL := al_in (al_4 (List.mem_of_getElem? (i := 119) (by decide +kernel))) (by decide +kernel)
theorem m_623 : Cond.instanceMethod yX11_number ∈ ALL := al_in (al_4 (List.mem_of_getElem? (i := 121) (by decide +kernel))) (by decide +kernel)
theorem m_624 : Cond.selects RX11 yX11_number yX11_number ∈ ALL := al_in (al_p (List.mem_of_getElem? (i := 14) (by decide +kernel))) (by decide +kernel)
theorem m_625 : Cond.methodLink RX11 156 yX11_must ∈ ALL := al_in (al_4 (List.mem_of_getElem? (i := 133) (by decide +kernel))) (by decide +kernel)
theorem m_626 : Cond.instanceMethod yX11_must ∈ ALL := al_in (al_4 (List.mem_of_getElem? (i := 135) (by decide +kernel))) (by decide +kernel)
theorem m_627 : Cond.selects RX11 yX11_must yX11_must ∈ ALL := al_in (al_p (List.mem_of_getElem? (i := 17) (by decide +kernel))) (by decide +kernel)
theorem m_628 : Cond.methodLink RX11 159 yX11_readPerson ∈ ALL := al_in (al_4 (List.mem_of_getElem? (i := 145) (by decide +kernel))) (by decide +kernel)
theorem m_629 : Cond.instanceMethod yX11_readPerson ∈ ALL := al_in (al_4 (List.mem_of_getElem? (i := 147) (by decide +kernel))) (by decide +kernel)
theorem m_630 : Cond.selects RX11 yX11_readPerson yX11_readPerson ∈ ALL := al_in (al_p (List.mem_of_getElem? (i := 20) (by decide +kernel))) (by decide +kernel)
theorem m_631 : Cond.methodLink RX11 162 yX11_lay ∈ ALL := al_in (al_4 (List.mem_of_getElem? (i := 153) (by decide +kernel))) (by decide +kernel)
theorem m_632 : Cond.static yX11_lay ∈ ALL := al_in (al_4 (List.mem_of_getElem? (i := 154) (by decide +kernel))) (by decide +kernel)
theorem m_633 : Cond.code yX11_house cX11_house 3 (some .int) ∈ ALL := al_in (al_4 (List.mem_of_getElem? (i := 118) rfl)) rfl
theorem m_634 : Cond.code yX11_count cX11_count 3 (some .int) ∈ ALL := al_in (al_4 (List.mem_of_getElem? (i := 159) rfl)) rfl
theorem m_635 : Cond.code yX11_know cX11_know 2 none ∈ ALL := al_in (al_4 (List.mem_of_getElem? (i := 174) rfl)) rfl
theorem m_636 : Cond.constantLong RX11 166 (60) ∈ ALL := al_in (al_4 (List.mem_of_getElem? (i := 170) (by decide +kernel))) (by decide +kernel)
theorem m_637 : Cond.methodLink RX11 168 yX11_know ∈ ALL := al_in (al_4 (List.mem_of_getElem? (i := 171) (by decide +kernel))) (by decide +kernel)
theorem m_638 : Cond.instanceMethod yX11_know ∈ ALL := al_in (al_4 (List.mem_of_getElem? (i := 173) (by decide +kernel))) (by decide +kernel)
theorem m_639 : Cond.selects RX11 yX11_know yX11_know ∈ ALL := al_in (al_p (List.mem_of_getElem? (i := 22) (by decide +kernel))) (by decide +kernel)
theorem m_640 : Cond.code yX11_weeks cX11_weeks 4 (some .int) ∈ ALL := al_in (al_4 (List.mem_of_getElem? (i := 169) rfl)) rfl
theorem m_641 : Cond.code yX11_take cX11_take 2 (some .int) ∈ ALL := al_in (al_4 (List.mem_of_getElem? (i := 181) rfl)) rfl
theorem m_642 : Cond.constantLong RX11 171 (1103515245) ∈ ALL := al_in (al_4 (List.mem_of_getElem? (i := 186) (by decide +kernel))) (by decide +kernel)
theorem m_643 : Cond.constantLong RX11 173 (12345) ∈ ALL := al_in (al_4 (List.mem_of_getElem? (i := 187) (by decide +kernel))) (by decide +kernel)
theorem m_644 : Cond.constantLong RX11 175 (2147483647) ∈ ALL := al_in (al_4 (List.mem_of_getElem? (i := 188) (by decide +kernel))) (by decide +kernel)
theorem m_645 : Cond.constant RX11 177 (65536) ∈ ALL := al_in (al_4 (List.mem_of_getElem? (i := 189) (by decide +kernel))) (by decide +kernel)
theorem m_646 : Cond.code yX11_drift cX11_drift 4 (some .int) ∈ ALL := al_in (al_4 (List.mem_of_getElem? (i := 185) rfl)) rfl
theorem m_647 : Cond.code yX11_undo cX11_undo 2 (some .int) ∈ ALL := al_in (al_4 (List.mem_of_getElem? (i := 193) rfl)) rfl
theorem m_648 : Cond.code yX11_seed cX11_seed 3 (some .int) ∈ ALL := al_in (al_4 (List.mem_of_getElem? (i := 197) rfl)) rfl
theorem m_649 : Cond.constantLong RX11 178 (2) ∈ ALL := al_in (al_4 (List.mem_of_getElem? (i := 202) (by decide +kernel))) (by decide +kernel)
theorem m_650 : Cond.methodLink RX11 180 yX11_weeksOf ∈ ALL := al_in (al_4 (List.mem_of_getElem? (i := 203) (by decide +kernel))) (by decide +kernel)
theorem m_651 : Cond.instanceMethod yX11_weeksOf ∈ ALL := al_in (al_4 (List.mem_of_getElem? (i := 205) (by decide +kernel))) (by decide +kernel)
theorem m_652 : Cond.selects RX11 yX11_weeksOf yX11_weeksOf ∈ ALL := al_in (al_p (List.mem_of_getElem? (i := 23) (by decide +kernel))) (by decide +kernel)
theorem m_653 : Cond.code yX11_ahead cX11_ahead 3 (some .int) ∈ ALL := al_in (al_4 (List.mem_of_getElem? (i := 201) rfl)) rfl
theorem m_654 : Cond.code yX11_due cX11_due 2 (some .int) ∈ ALL := al_in (al_4 (List.mem_of_getElem? (i := 210) rfl)) rfl
theorem m_655 : Cond.code yX11_dearest cX11_dearest 6 (some .int) ∈ ALL := al_in (al_4 (List.mem_of_getElem? (i := 214) rfl)) rfl
theorem m_656 : Cond.code yX11_quiet cX11_quiet 7 (some .int) ∈ ALL := al_in (al_4 (List.mem_of_getElem? (i := 218) rfl)) rfl
theorem m_657 : Cond.code yX11_ends cX11_ends 3 (some .int) ∈ ALL := al_in (al_4 (List.mem_of_getElem? (i := 222) rfl)) rfl
theorem m_658 : Cond.code yX11_raised cX11_raised 7 (some .int) ∈ ALL := al_in (al_4 (List.mem_of_getElem? (i := 226) rfl)) rfl
theorem m_659 : Cond.code yX11_hoped cX11_hoped 8 (some .int) ∈ ALL := al_in (al_4 (List.mem_of_getElem? (i := 230) rfl)) rfl
theorem m_660 : Cond.code yX11_mean cX11_mean 8 (some .int) ∈ ALL := al_in (al_4 (List.mem_of_getElem? (i := 234) rfl)) rfl
theorem m_661 : Cond.code yX11_image cX11_image 2 (some .int) ∈ ALL := al_in (al_4 (List.mem_of_getElem? (i := 238) rfl)) rfl
theorem m_662 : Cond.fieldLink RX11 183 "SeaJarModel" "keptUndone" "I" ∈ ALL := al_in (al_3 (List.mem_of_getElem? (i := 238) (by decide +kernel))) (by decide +kernel)
theorem m_663 : Cond.fieldLink RX11 186 "SeaJarModel" "isKept" "Z" ∈ ALL := al_in (al_3 (List.mem_of_getElem? (i := 239) (by decide +kernel))) (by decide +kernel)
theorem m_664 : Cond.code yX11_restore cX11_restore 2 (some .int) ∈ ALL := al_in (al_5 (List.mem_of_getElem? (i := 2) rfl)) rfl
theorem m_665 : Cond.code yX11_isNumber cX11_isNumber 1 (some .boolean) ∈ ALL := al_in (al_5 (List.mem_of_getElem? (i := 9) rfl)) rfl
theorem m_666 : Cond.constantLong RX11 189 (3) ∈ ALL := al_in (al_5 (List.mem_of_getElem? (i := 10) (by decide +kernel))) (by decide +kernel)
theorem m_667 : Cond.code yX11_cut cX11_cut 3 (some .long) ∈ ALL := al_in (al_5 (List.mem_of_getElem? (i := 23) rfl)) rfl
theorem m_668 : Cond.code yX11_found cX11_found 5 (some .int) ∈ ALL := al_in (al_5 (List.mem_of_getElem? (i := 15) rfl)) rfl
theorem m_669 : Cond.constantLong RX11 194 (8) ∈ ALL := al_in (al_5 (List.mem_of_getElem? (i := 11) (by decide +kernel))) (by decide +kernel)
theorem m_670 : Cond.methodLink RX11 191 yX11_isNumber ∈ ALL := al_in (al_5 (List.mem_of_getElem? (i := 7) (by decide +kernel))) (by decide +kernel)
theorem m_671 : Cond.static yX11_isNumber ∈ ALL := al_in (al_5 (List.mem_of_getElem? (i := 8) (by decide +kernel))) (by decide +kernel)
theorem m_672 : Cond.methodLink RX11 196 yX11_found ∈ ALL := al_in (al_5 (List.mem_of_getElem? (i := 12) (by decide +kernel))) (by decide +kernel)
theorem m_673 : Cond.instanceMethod yX11_found ∈ ALL := al_in (al_5 (List.mem_of_getElem? (i := 14) (by decide +kernel))) (by decide +kernel)
theorem m_674 : Cond.selects RX11 yX11_found yX11_found ∈ ALL := al_in (al_p (List.mem_of_getElem? (i := 24) (by decide +kernel))) (by decide +kernel)
theorem m_675 : Cond.code yX11_taken cX11_taken 12 (some .int) ∈ ALL := al_in (al_5 (List.mem_of_getElem? (i := 6) rfl)) rfl
theorem m_676 : Cond.constantLong RX11 200 (24) ∈ ALL := al_in (al_5 (List.mem_of_getElem? (i := 20) (by decide +kernel))) (by decide +kernel)
theorem m_677 : Cond.methodLink RX11 202 yX11_cut ∈ ALL := al_in (al_5 (List.mem_of_getElem? (i := 21) (by decide +kernel))) (by decide +kernel)
theorem m_678 : Cond.static yX11_cut ∈ ALL := al_in (al_5 (List.mem_of_getElem? (i := 22) (by decide +kernel))) (by decide +kernel)
theorem m_679 : Cond.code yX11_film cX11_film 7 (some .int) ∈ ALL := al_in (al_5 (List.mem_of_getElem? (i := 19) rfl)) rfl
theorem m_680 : Cond.code yX11_sheet cX11_sheet 5 (some .int) ∈ ALL := al_in (al_5 (List.mem_of_getElem? (i := 27) rfl)) rfl
theorem m_681 : Cond.code yX11_drop cX11_drop 2 (some .int) ∈ ALL := al_in (al_5 (List.mem_of_getElem? (i := 31) rfl)) rfl
theorem m_682 : Cond.code yX11_item cX11_item 7 (some .int) ∈ ALL := al_in (al_5 (List.mem_of_getElem? (i := 35) rfl)) rfl
theorem m_683 : Cond.code yX11_copy cX11_copy 7 (some .int) ∈ ALL := al_in (al_5 (List.mem_of_getElem? (i := 39) rfl)) rfl
theorem m_684 : Cond.classLink RL 7 RX10 ∈ ALL := al_in (al_1 (List.mem_of_getElem? (i := 21) (by decide +kernel))) (by decide +kernel)
theorem m_685 : Cond.instantiable RX10 8 ∈ ALL := al_in (al_1 (List.mem_of_getElem? (i := 22) (by decide +kernel))) (by decide +kernel)
theorem m_686 : Cond.classLink RL 10 RX11 ∈ ALL := al_in (al_3 (List.mem_of_getElem? (i := 225) (by decide +kernel))) (by decide +kernel)
theorem m_687 : Cond.instantiable RX11 22 ∈ ALL := al_in (al_3 (List.mem_of_getElem? (i := 226) (by decide +kernel))) (by decide +kernel)
theorem m_688 : Cond.constantLong RL 123 (4294967295) ∈ ALL := al_in (al_5 (List.mem_of_getElem? (i := 40) (by decide +kernel))) (by decide +kernel)
theorem m_689 : Cond.methodLink RL 9 yX10_init ∈ ALL := al_in (al_1 (List.mem_of_getElem? (i := 23) (by decide +kernel))) (by decide +kernel)
theorem m_690 : Cond.instanceMethod yX10_init ∈ ALL := al_in (al_1 (List.mem_of_getElem? (i := 24) (by decide +kernel))) (by decide +kernel)
theorem m_691 : Cond.methodLink RL 12 yX11_init ∈ ALL := al_in (al_3 (List.mem_of_getElem? (i := 227) (by decide +kernel))) (by decide +kernel)
theorem m_692 : Cond.instanceMethod yX11_init ∈ ALL := al_in (al_3 (List.mem_of_getElem? (i := 228) (by decide +kernel))) (by decide +kernel)
theorem m_693 : Cond.methodLink RL 13 yX10_person ∈ ALL := al_in (al_1 (List.mem_of_getElem? (i := 188) (by decide +kernel))) (by decide +kernel)
theorem m_694 : Cond.instanceMethod yX10_person ∈ ALL := al_in (al_1 (List.mem_of_getElem? (i := 189) (by decide +kernel))) (by decide +kernel)
theorem m_695 : Cond.selects RX10 yX10_person yX10_person ∈ ALL := al_in (al_1 (List.mem_of_getElem? (i := 190) (by decide +kernel))) (by decide +kernel)
theorem m_696 : Cond.methodLink RL 17 yX11_person ∈ ALL := al_in (al_4 (List.mem_of_getElem? (i := 59) (by decide +kernel))) (by decide +kernel)
theorem m_697 : Cond.instanceMethod yX11_person ∈ ALL := al_in (al_4 (List.mem_of_getElem? (i := 60) (by decide +kernel))) (by decide +kernel)
theorem m_698 : Cond.selects RX11 yX11_person yX11_person ∈ ALL := al_in (al_4 (List.mem_of_getElem? (i := 61) (by decide +kernel))) (by decide +kernel)
theorem m_699 : Cond.methodLink RL 18 yX10_of ∈ ALL := al_in (al_2 (List.mem_of_getElem? (i := 29) (by decide +kernel))) (by decide +kernel)
theorem m_700 : Cond.instanceMethod yX10_of ∈ ALL := al_in (al_2 (List.mem_of_getElem? (i := 30) (by decide +kernel))) (by decide +kernel)
theorem m_701 : Cond.selects RX10 yX10_of yX10_of ∈ ALL := al_in (al_2 (List.mem_of_getElem? (i := 31) (by decide +kernel))) (by decide +kernel)
theorem m_702 : Cond.methodLink RL 22 yX11_of ∈ ALL := al_in (al_4 (List.mem_of_getElem? (i := 69) (by decide +kernel))) (by decide +kernel)
theorem m_703 : Cond.instanceMethod yX11_of ∈ ALL := al_in (al_4 (List.mem_of_getElem? (i := 70) (by decide +kernel))) (by decide +kernel)
theorem m_704 : Cond.selects RX11 yX11_of yX11_of ∈ ALL := al_in (al_4 (List.mem_of_getElem? (i := 71) (by decide +kernel))) (by decide +kernel)
theorem m_705 : Cond.methodLink RL 23 yX10_rule ∈ ALL := al_in (al_2 (List.mem_of_getElem? (i := 135) (by decide +kernel))) (by decide +kernel)
theorem m_706 : Cond.instanceMethod yX10_rule ∈ ALL := al_in (al_2 (List.mem_of_getElem? (i := 136) (by decide +kernel))) (by decide +kernel)
theorem m_707 : Cond.selects RX10 yX10_rule yX10_rule ∈ ALL := al_in (al_2 (List.mem_of_getElem? (i := 137) (by decide +kernel))) (by decide +kernel)
theorem m_708 : Cond.methodLink RL 26 yX11_rule ∈ ALL := al_in (al_4 (List.mem_of_getElem? (i := 99) (by decide +kernel))) (by decide +kernel)
theorem m_709 : Cond.instanceMethod yX11_rule ∈ ALL := al_in (al_4 (List.mem_of_getElem? (i := 100) (by decide +kernel))) (by decide +kernel)
theorem m_710 : Cond.selects RX11 yX11_rule yX11_rule ∈ ALL := al_in (al_4 (List.mem_of_getElem? (i := 101) (by decide +kernel))) (by decide +kernel)
theorem m_711 : Cond.methodLink RL 27 yX10_hope ∈ ALL := al_in (al_2 (List.mem_of_getElem? (i := 139) (by decide +kernel))) (by decide +kernel)
theorem m_712 : Cond.instanceMethod yX10_hope ∈ ALL := al_in (al_2 (List.mem_of_getElem? (i := 140) (by decide +kernel))) (by decide +kernel)
theorem m_713 : Cond.selects RX10 yX10_hope yX10_hope ∈ ALL := al_in (al_2 (List.mem_of_getElem? (i := 141) (by decide +kernel))) (by decide +kernel)
theorem m_714 : Cond.methodLink RL 30 yX11_hope ∈ ALL := al_in (al_4 (List.mem_of_getElem? (i := 105) (by decide +kernel))) (by decide +kernel)
theorem m_715 : Cond.instanceMethod yX11_hope ∈ ALL := al_in (al_4 (List.mem_of_getElem? (i := 106) (by decide +kernel))) (by decide +kernel)
theorem m_716 : Cond.selects RX11 yX11_hope yX11_hope ∈ ALL := al_in (al_4 (List.mem_of_getElem? (i := 107) (by decide +kernel))) (by decide +kernel)
theorem m_717 : Cond.methodLink RL 31 yX10_type ∈ ALL := al_in (al_2 (List.mem_of_getElem? (i := 143) (by decide +kernel))) (by decide +kernel)
theorem m_718 : Cond.instanceMethod yX10_type ∈ ALL := al_in (al_2 (List.mem_of_getElem? (i := 144) (by decide +kernel))) (by decide +kernel)
theorem m_719 : Cond.selects RX10 yX10_type yX10_type ∈ ALL := al_in (al_2 (List.mem_of_getElem? (i := 145) (by decide +kernel))) (by decide +kernel)
theorem m_720 : Cond.methodLink RL 35 yX11_type ∈ ALL := al_in (al_4 (List.mem_of_getElem? (i := 109) (by decide +kernel))) (by decide +kernel)
theorem m_721 : Cond.instanceMethod yX11_type ∈ ALL := al_in (al_4 (List.mem_of_getElem? (i := 110) (by decide +kernel))) (by decide +kernel)
theorem m_722 : Cond.selects RX11 yX11_type yX11_type ∈ ALL := al_in (al_4 (List.mem_of_getElem? (i := 111) (by decide +kernel))) (by decide +kernel)
theorem m_723 : Cond.methodLink RL 36 yX10_house ∈ ALL := al_in (al_2 (List.mem_of_getElem? (i := 147) (by decide +kernel))) (by decide +kernel)
theorem m_724 : Cond.instanceMethod yX10_house ∈ ALL := al_in (al_2 (List.mem_of_getElem? (i := 148) (by decide +kernel))) (by decide +kernel)
theorem m_725 : Cond.selects RX10 yX10_house yX10_house ∈ ALL := al_in (al_2 (List.mem_of_getElem? (i := 149) (by decide +kernel))) (by decide +kernel)
theorem m_726 : Cond.methodLink RL 40 yX11_house ∈ ALL := al_in (al_4 (List.mem_of_getElem? (i := 115) (by decide +kernel))) (by decide +kernel)
theorem m_727 : Cond.instanceMethod yX11_house ∈ ALL := al_in (al_4 (List.mem_of_getElem? (i := 116) (by decide +kernel))) (by decide +kernel)
theorem m_728 : Cond.selects RX11 yX11_house yX11_house ∈ ALL := al_in (al_4 (List.mem_of_getElem? (i := 117) (by decide +kernel))) (by decide +kernel)
theorem m_729 : Cond.methodLink RL 41 yX10_count ∈ ALL := al_in (al_3 (List.mem_of_getElem? (i := 41) (by decide +kernel))) (by decide +kernel)
theorem m_730 : Cond.instanceMethod yX10_count ∈ ALL := al_in (al_3 (List.mem_of_getElem? (i := 42) (by decide +kernel))) (by decide +kernel)
theorem m_731 : Cond.selects RX10 yX10_count yX10_count ∈ ALL := al_in (al_3 (List.mem_of_getElem? (i := 43) (by decide +kernel))) (by decide +kernel)
theorem m_732 : Cond.methodLink RL 44 yX11_count ∈ ALL := al_in (al_4 (List.mem_of_getElem? (i := 156) (by decide +kernel))) (by decide +kernel)
theorem m_733 : Cond.instanceMethod yX11_count ∈ ALL := al_in (al_4 (List.mem_of_getElem? (i := 157) (by decide +kernel))) (by decide +kernel)
theorem m_734 : Cond.selects RX11 yX11_count yX11_count ∈ ALL := al_in (al_4 (List.mem_of_getElem? (i := 158) (by decide +kernel))) (by decide +kernel)
theorem m_735 : Cond.methodLink RL 45 yX10_weeks ∈ ALL := al_in (al_3 (List.mem_of_getElem? (i := 54) (by decide +kernel))) (by decide +kernel)
theorem m_736 : Cond.instanceMethod yX10_weeks ∈ ALL := al_in (al_3 (List.mem_of_getElem? (i := 55) (by decide +kernel))) (by decide +kernel)
theorem m_737 : Cond.selects RX10 yX10_weeks yX10_weeks ∈ ALL := al_in (al_3 (List.mem_of_getElem? (i := 56) (by decide +kernel))) (by decide +kernel)
theorem m_738 : Cond.methodLink RL 48 yX11_weeks ∈ ALL := al_in (al_4 (List.mem_of_getElem? (i := 166) (by decide +kernel))) (by decide +kernel)
theorem m_739 : Cond.instanceMethod yX11_weeks ∈ ALL := al_in (al_4 (List.mem_of_getElem? (i := 167) (by decide +kernel))) (by decide +kernel)
theorem m_740 : Cond.selects RX11 yX11_weeks yX11_weeks ∈ ALL := al_in (al_4 (List.mem_of_getElem? (i := 168) (by decide +kernel))) (by decide +kernel)
theorem m_741 : Cond.methodLink RL 49 yX10_take ∈ ALL := al_in (al_3 (List.mem_of_getElem? (i := 71) (by decide +kernel))) (by decide +kernel)
theorem m_742 : Cond.instanceMethod yX10_take ∈ ALL := al_in (al_3 (List.mem_of_getElem? (i := 72) (by decide +kernel))) (by decide +kernel)
theorem m_743 : Cond.selects RX10 yX10_take yX10_take ∈ ALL := al_in (al_3 (List.mem_of_getElem? (i := 73) (by decide +kernel))) (by decide +kernel)
theorem m_744 : Cond.methodLink RL 52 yX11_take ∈ ALL := al_in (al_4 (List.mem_of_getElem? (i := 178) (by decide +kernel))) (by decide +kernel)
theorem m_745 : Cond.instanceMethod yX11_take ∈ ALL := al_in (al_4 (List.mem_of_getElem? (i := 179) (by decide +kernel))) (by decide +kernel)
theorem m_746 : Cond.selects RX11 yX11_take yX11_take ∈ ALL := al_in (al_4 (List.mem_of_getElem? (i := 180) (by decide +kernel))) (by decide +kernel)
theorem m_747 : Cond.methodLink RL 53 yX10_drift ∈ ALL := al_in (al_3 (List.mem_of_getElem? (i := 75) (by decide +kernel))) (by decide +kernel)
theorem m_748 : Cond.instanceMethod yX10_drift ∈ ALL := al_in (al_3 (List.mem_of_getElem? (i := 76) (by decide +kernel))) (by decide +kernel)
theorem m_749 : Cond.selects RX10 yX10_drift yX10_drift ∈ ALL := al_in (al_3 (List.mem_of_getElem? (i := 77) (by decide +kernel))) (by decide +kernel)
theorem m_750 : Cond.methodLink RL 56 yX11_drift ∈ ALL := al_in (al_4 (List.mem_of_getElem? (i := 182) (by decide +kernel))) (by decide +kernel)
theorem m_751 : Cond.instanceMethod yX11_drift ∈ ALL := al_in (al_4 (List.mem_of_getElem? (i := 183) (by decide +kernel))) (by decide +kernel)
theorem m_752 : Cond.selects RX11 yX11_drift yX11_drift ∈ ALL := al_in (al_4 (List.mem_of_getElem? (i := 184) (by decide +kernel))) (by decide +kernel)
theorem m_753 : Cond.methodLink RL 57 yX10_undo ∈ ALL := al_in (al_3 (List.mem_of_getElem? (i := 86) (by decide +kernel))) (by decide +kernel)
theorem m_754 : Cond.instanceMethod yX10_undo ∈ ALL := al_in (al_3 (List.mem_of_getElem? (i := 87) (by decide +kernel))) (by decide +kernel)
theorem m_755 : Cond.selects RX10 yX10_undo yX10_undo ∈ ALL := al_in (al_3 (List.mem_of_getElem? (i := 88) (by decide +kernel))) (by decide +kernel)
theorem m_756 : Cond.methodLink RL 60 yX11_undo ∈ ALL := al_in (al_4 (List.mem_of_getElem? (i := 190) (by decide +kernel))) (by decide +kernel)
theorem m_757 : Cond.instanceMethod yX11_undo ∈ ALL := al_in (al_4 (List.mem_of_getElem? (i := 191) (by decide +kernel))) (by decide +kernel)
theorem m_758 : Cond.selects RX11 yX11_undo yX11_undo ∈ ALL := al_in (al_4 (List.mem_of_getElem? (i := 192) (by decide +kernel))) (by decide +kernel)
theorem m_759 : Cond.methodLink RL 61 yX10_seed ∈ ALL := al_in (al_3 (List.mem_of_getElem? (i := 94) (by decide +kernel))) (by decide +kernel)
theorem m_760 : Cond.instanceMethod yX10_seed ∈ ALL := al_in (al_3 (List.mem_of_getElem? (i := 95) (by decide +kernel))) (by decide +kernel)
theorem m_761 : Cond.selects RX10 yX10_seed yX10_seed ∈ ALL := al_in (al_3 (List.mem_of_getElem? (i := 96) (by decide +kernel))) (by decide +kernel)
theorem m_762 : Cond.methodLink RL 64 yX11_seed ∈ ALL := al_in (al_4 (List.mem_of_getElem? (i := 194) (by decide +kernel))) (by decide +kernel)
theorem m_763 : Cond.instanceMethod yX11_seed ∈ ALL := al_in (al_4 (List.mem_of_getElem? (i := 195) (by decide +kernel))) (by decide +kernel)
theorem m_764 : Cond.selects RX11 yX11_seed yX11_seed ∈ ALL := al_in (al_4 (List.mem_of_getElem? (i := 196) (by decide +kernel))) (by decide +kernel)
theorem m_765 : Cond.methodLink RL 65 yX10_ahead ∈ ALL := al_in (al_3 (List.mem_of_getElem? (i := 98) (by decide +kernel))) (by decide +kernel)
theorem m_766 : Cond.instanceMethod yX10_ahead ∈ ALL := al_in (al_3 (List.mem_of_getElem? (i := 99) (by decide +kernel))) (by decide +kernel)
theorem m_767 : Cond.selects RX10 yX10_ahead yX10_ahead ∈ ALL := al_in (al_3 (List.mem_of_getElem? (i := 100) (by decide +kernel))) (by decide +kernel)
theorem m_768 : Cond.methodLink RL 68 yX11_ahead ∈ ALL := al_in (al_4 (List.mem_of_getElem? (i := 198) (by decide +kernel))) (by decide +kernel)
theorem m_769 : Cond.instanceMethod yX11_ahead ∈ ALL := al_in (al_4 (List.mem_of_getElem? (i := 199) (by decide +kernel))) (by decide +kernel)
theorem m_770 : Cond.selects RX11 yX11_ahead yX11_ahead ∈ ALL := al_in (al_4 (List.mem_of_getElem? (i := 200) (by decide +kernel))) (by decide +kernel)
theorem m_771 : Cond.methodLink RL 69 yX10_due ∈ ALL := al_in (al_3 (List.mem_of_getElem? (i := 111) (by decide +kernel))) (by decide +kernel)
theorem m_772 : Cond.instanceMethod yX10_due ∈ ALL := al_in (al_3 (List.mem_of_getElem? (i := 112) (by decide +kernel))) (by decide +kernel)
theorem m_773 : Cond.selects RX10 yX10_due yX10_due ∈ ALL := al_in (al_3 (List.mem_of_getElem? (i := 113) (by decide +kernel))) (by decide +kernel)
theorem m_774 : Cond.methodLink RL 72 yX11_due ∈ ALL := al_in (al_4 (List.mem_of_getElem? (i := 207) (by decide +kernel))) (by decide +kernel)
theorem m_775 : Cond.instanceMethod yX11_due ∈ ALL := al_in (al_4 (List.mem_of_getElem? (i := 208) (by decide +kernel))) (by decide +kernel)
theorem m_776 : Cond.selects RX11 yX11_due yX11_due ∈ ALL := al_in (al_4 (List.mem_of_getElem? (i := 209) (by decide +kernel))) (by decide +kernel)
theorem m_777 : Cond.methodLink RL 73 yX10_dearest ∈ ALL := al_in (al_3 (List.mem_of_getElem? (i := 115) (by decide +kernel))) (by decide +kernel)
theorem m_778 : Cond.instanceMethod yX10_dearest ∈ ALL := al_in (al_3 (List.mem_of_getElem? (i := 116) (by decide +kernel))) (by decide +kernel)
theorem m_779 : Cond.selects RX10 yX10_dearest yX10_dearest ∈ ALL := al_in (al_3 (List.mem_of_getElem? (i := 117) (by decide +kernel))) (by decide +kernel)
theorem m_780 : Cond.methodLink RL 76 yX11_dearest ∈ ALL := al_in (al_4 (List.mem_of_getElem? (i := 211) (by decide +kernel))) (by decide +kernel)
theorem m_781 : Cond.instanceMethod yX11_dearest ∈ ALL := al_in (al_4 (List.mem_of_getElem? (i := 212) (by decide +kernel))) (by decide +kernel)
theorem m_782 : Cond.selects RX11 yX11_dearest yX11_dearest ∈ ALL := al_in (al_4 (List.mem_of_getElem? (i := 213) (by decide +kernel))) (by decide +kernel)
theorem m_783 : Cond.methodLink RL 77 yX10_quiet ∈ ALL := al_in (al_3 (List.mem_of_getElem? (i := 123) (by decide +kernel))) (by decide +kernel)
theorem m_784 : Cond.instanceMethod yX10_quiet ∈ ALL := al_in (al_3 (List.mem_of_getElem? (i := 124) (by decide +kernel))) (by decide +kernel)
theorem m_785 : Cond.selects RX10 yX10_quiet yX10_quiet ∈ ALL := al_in (al_3 (List.mem_of_getElem? (i := 125) (by decide +kernel))) (by decide +kernel)
theorem m_786 : Cond.methodLink RL 80 yX11_quiet ∈ ALL := al_in (al_4 (List.mem_of_getElem? (i := 215) (by decide +kernel))) (by decide +kernel)
theorem m_787 : Cond.instanceMethod yX11_quiet ∈ ALL := al_in (al_4 (List.mem_of_getElem? (i := 216) (by decide +kernel))) (by decide +kernel)
theorem m_788 : Cond.selects RX11 yX11_quiet yX11_quiet ∈ ALL := al_in (al_4 (List.mem_of_getElem? (i := 217) (by decide +kernel))) (by decide +kernel)
theorem m_789 : Cond.methodLink RL 81 yX10_ends ∈ ALL := al_in (al_3 (List.mem_of_getElem? (i := 127) (by decide +kernel))) (by decide +kernel)
theorem m_790 : Cond.instanceMethod yX10_ends ∈ ALL := al_in (al_3 (List.mem_of_getElem? (i := 128) (by decide +kernel))) (by decide +kernel)
theorem m_791 : Cond.selects RX10 yX10_ends yX10_ends ∈ ALL := al_in (al_3 (List.mem_of_getElem? (i := 129) (by decide +kernel))) (by decide +kernel)
theorem m_792 : Cond.methodLink RL 84 yX11_ends ∈ ALL := al_in (al_4 (List.mem_of_getElem? (i := 219) (by decide +kernel))) (by decide +kernel)
theorem m_793 : Cond.instanceMethod yX11_ends ∈ ALL := al_in (al_4 (List.mem_of_getElem? (i := 220) (by decide +kernel))) (by decide +kernel)
theorem m_794 : Cond.selects RX11 yX11_ends yX11_ends ∈ ALL := al_in (al_4 (List.mem_of_getElem? (i := 221) (by decide +kernel))) (by decide +kernel)
theorem m_795 : Cond.methodLink RL 85 yX10_raised ∈ ALL := al_in (al_3 (List.mem_of_getElem? (i := 131) (by decide +kernel))) (by decide +kernel)
theorem m_796 : Cond.instanceMethod yX10_raised ∈ ALL := al_in (al_3 (List.mem_of_getElem? (i := 132) (by decide +kernel))) (by decide +kernel)
theorem m_797 : Cond.selects RX10 yX10_raised yX10_raised ∈ ALL := al_in (al_3 (List.mem_of_getElem? (i := 133) (by decide +kernel))) (by decide +kernel)
theorem m_798 : Cond.methodLink RL 88 yX11_raised ∈ ALL := al_in (al_4 (List.mem_of_getElem? (i := 223) (by decide +kernel))) (by decide +kernel)
theorem m_799 : Cond.instanceMethod yX11_raised ∈ ALL := al_in (al_4 (List.mem_of_getElem? (i := 224) (by decide +kernel))) (by decide +kernel)
theorem m_800 : Cond.selects RX11 yX11_raised yX11_raised ∈ ALL := al_in (al_4 (List.mem_of_getElem? (i := 225) (by decide +kernel))) (by decide +kernel)
theorem m_801 : Cond.methodLink RL 89 yX10_hoped ∈ ALL := al_in (al_3 (List.mem_of_getElem? (i := 138) (by decide +kernel))) (by decide +kernel)
theorem m_802 : Cond.instanceMethod yX10_hoped ∈ ALL := al_in (al_3 (List.mem_of_getElem? (i := 139) (by decide +kernel))) (by decide +kernel)
theorem m_803 : Cond.selects RX10 yX10_hoped yX10_hoped ∈ ALL := al_in (al_3 (List.mem_of_getElem? (i := 140) (by decide +kernel))) (by decide +kernel)
theorem m_804 : Cond.methodLink RL 92 yX11_hoped ∈ ALL := al_in (al_4 (List.mem_of_getElem? (i := 227) (by decide +kernel))) (by decide +kernel)
theorem m_805 : Cond.instanceMethod yX11_hoped ∈ ALL := al_in (al_4 (List.mem_of_getElem? (i := 228) (by decide +kernel))) (by decide +kernel)
theorem m_806 : Cond.selects RX11 yX11_hoped yX11_hoped ∈ ALL := al_in (al_4 (List.mem_of_getElem? (i := 229) (by decide +kernel))) (by decide +kernel)
theorem m_807 : Cond.methodLink RL 93 yX10_mean ∈ ALL := al_in (al_3 (List.mem_of_getElem? (i := 142) (by decide +kernel))) (by decide +kernel)
theorem m_808 : Cond.instanceMethod yX10_mean ∈ ALL := al_in (al_3 (List.mem_of_getElem? (i := 143) (by decide +kernel))) (by decide +kernel)
theorem m_809 : Cond.selects RX10 yX10_mean yX10_mean ∈ ALL := al_in (al_3 (List.mem_of_getElem? (i := 144) (by decide +kernel))) (by decide +kernel)
theorem m_810 : Cond.methodLink RL 96 yX11_mean ∈ ALL := al_in (al_4 (List.mem_of_getElem? (i := 231) (by decide +kernel))) (by decide +kernel)
theorem m_811 : Cond.instanceMethod yX11_mean ∈ ALL := al_in (al_4 (List.mem_of_getElem? (i := 232) (by decide +kernel))) (by decide +kernel)
theorem m_812 : Cond.selects RX11 yX11_mean yX11_mean ∈ ALL := al_in (al_4 (List.mem_of_getElem? (i := 233) (by decide +kernel))) (by decide +kernel)
theorem m_813 : Cond.methodLink RL 97 yX10_image ∈ ALL := al_in (al_3 (List.mem_of_getElem? (i := 150) (by decide +kernel))) (by decide +kernel)
theorem m_814 : Cond.instanceMethod yX10_image ∈ ALL := al_in (al_3 (List.mem_of_getElem? (i := 151) (by decide +kernel))) (by decide +kernel)
theorem m_815 : Cond.selects RX10 yX10_image yX10_image ∈ ALL := al_in (al_3 (List.mem_of_getElem? (i := 152) (by decide +kernel))) (by decide +kernel)
theorem m_816 : Cond.methodLink RL 100 yX11_image ∈ ALL := al_in (al_4 (List.mem_of_getElem? (i := 235) (by decide +kernel))) (by decide +kernel)
theorem m_817 : Cond.instanceMethod yX11_image ∈ ALL := al_in (al_4 (List.mem_of_getElem? (i := 236) (by decide +kernel))) (by decide +kernel)
theorem m_818 : Cond.selects RX11 yX11_image yX11_image ∈ ALL := al_in (al_4 (List.mem_of_getElem? (i := 237) (by decide +kernel))) (by decide +kernel)
theorem m_819 : Cond.methodLink RL 101 yX10_restore ∈ ALL := al_in (al_3 (List.mem_of_getElem? (i := 158) (by decide +kernel))) (by decide +kernel)
theorem m_820 : Cond.instanceMethod yX10_restore ∈ ALL := al_in (al_3 (List.mem_of_getElem? (i := 159) (by decide +kernel))) (by decide +kernel)
theorem m_821 : Cond.selects RX10 yX10_restore yX10_restore ∈ ALL := al_in (al_3 (List.mem_of_getElem? (i := 160) (by decide +kernel))) (by decide +kernel)
theorem m_822 : Cond.methodLink RL 104 yX11_restore ∈ ALL := al_in (al_4 (List.mem_of_getElem? (i := 239) (by decide +kernel))) (by decide +kernel)
theorem m_823 : Cond.instanceMethod yX11_restore ∈ ALL := al_in (al_5 (List.mem_of_getElem? (i := 0) (by decide +kernel))) (by decide +kernel)
theorem m_824 : Cond.selects RX11 yX11_restore yX11_restore ∈ ALL := al_in (al_5 (List.mem_of_getElem? (i := 1) (by decide +kernel))) (by decide +kernel)
theorem m_825 : Cond.methodLink RL 105 yX10_taken ∈ ALL := al_in (al_3 (List.mem_of_getElem? (i := 162) (by decide +kernel))) (by decide +kernel)
theorem m_826 : Cond.instanceMethod yX10_taken ∈ ALL := al_in (al_3 (List.mem_of_getElem? (i := 163) (by decide +kernel))) (by decide +kernel)
theorem m_827 : Cond.selects RX10 yX10_taken yX10_taken ∈ ALL := al_in (al_3 (List.mem_of_getElem? (i := 164) (by decide +kernel))) (by decide +kernel)
theorem m_828 : Cond.methodLink RL 109 yX11_taken ∈ ALL := al_in (al_5 (List.mem_of_getElem? (i := 3) (by decide +kernel))) (by decide +kernel)
theorem m_829 : Cond.instanceMethod yX11_taken ∈ ALL := al_in (al_5 (List.mem_of_getElem? (i := 4) (by decide +kernel))) (by decide +kernel)
theorem m_830 : Cond.selects RX11 yX11_taken yX11_taken ∈ ALL := al_in (al_5 (List.mem_of_getElem? (i := 5) (by decide +kernel))) (by decide +kernel)
theorem m_831 : Cond.methodLink RL 110 yX10_film ∈ ALL := al_in (al_3 (List.mem_of_getElem? (i := 195) (by decide +kernel))) (by decide +kernel)
theorem m_832 : Cond.instanceMethod yX10_film ∈ ALL := al_in (al_3 (List.mem_of_getElem? (i := 196) (by decide +kernel))) (by decide +kernel)
theorem m_833 : Cond.selects RX10 yX10_film yX10_film ∈ ALL := al_in (al_3 (List.mem_of_getElem? (i := 197) (by decide +kernel))) (by decide +kernel)
theorem m_834 : Cond.methodLink RL 114 yX11_film ∈ ALL := al_in (al_5 (List.mem_of_getElem? (i := 16) (by decide +kernel))) (by decide +kernel)
theorem m_835 : Cond.instanceMethod yX11_film ∈ ALL := al_in (al_5 (List.mem_of_getElem? (i := 17) (by decide +kernel))) (by decide +kernel)
theorem m_836 : Cond.selects RX11 yX11_film yX11_film ∈ ALL := al_in (al_5 (List.mem_of_getElem? (i := 18) (by decide +kernel))) (by decide +kernel)
theorem m_837 : Cond.methodLink RL 115 yX10_sheet ∈ ALL := al_in (al_3 (List.mem_of_getElem? (i := 203) (by decide +kernel))) (by decide +kernel)
theorem m_838 : Cond.instanceMethod yX10_sheet ∈ ALL := al_in (al_3 (List.mem_of_getElem? (i := 204) (by decide +kernel))) (by decide +kernel)
theorem m_839 : Cond.selects RX10 yX10_sheet yX10_sheet ∈ ALL := al_in (al_3 (List.mem_of_getElem? (i := 205) (by decide +kernel))) (by decide +kernel)
theorem m_840 : Cond.methodLink RL 118 yX11_sheet ∈ ALL := al_in (al_5 (List.mem_of_getElem? (i := 24) (by decide +kernel))) (by decide +kernel)
theorem m_841 : Cond.instanceMethod yX11_sheet ∈ ALL := al_in (al_5 (List.mem_of_getElem? (i := 25) (by decide +kernel))) (by decide +kernel)
theorem m_842 : Cond.selects RX11 yX11_sheet yX11_sheet ∈ ALL := al_in (al_5 (List.mem_of_getElem? (i := 26) (by decide +kernel))) (by decide +kernel)
theorem m_843 : Cond.methodLink RL 119 yX10_drop ∈ ALL := al_in (al_3 (List.mem_of_getElem? (i := 211) (by decide +kernel))) (by decide +kernel)
theorem m_844 : Cond.instanceMethod yX10_drop ∈ ALL := al_in (al_3 (List.mem_of_getElem? (i := 212) (by decide +kernel))) (by decide +kernel)
theorem m_845 : Cond.selects RX10 yX10_drop yX10_drop ∈ ALL := al_in (al_3 (List.mem_of_getElem? (i := 213) (by decide +kernel))) (by decide +kernel)
theorem m_846 : Cond.methodLink RL 122 yX11_drop ∈ ALL := al_in (al_5 (List.mem_of_getElem? (i := 28) (by decide +kernel))) (by decide +kernel)
theorem m_847 : Cond.instanceMethod yX11_drop ∈ ALL := al_in (al_5 (List.mem_of_getElem? (i := 29) (by decide +kernel))) (by decide +kernel)
theorem m_848 : Cond.selects RX11 yX11_drop yX11_drop ∈ ALL := al_in (al_5 (List.mem_of_getElem? (i := 30) (by decide +kernel))) (by decide +kernel)
theorem m_849 : Cond.methodLink RL 125 yX10_item ∈ ALL := al_in (al_3 (List.mem_of_getElem? (i := 215) (by decide +kernel))) (by decide +kernel)
theorem m_850 : Cond.instanceMethod yX10_item ∈ ALL := al_in (al_3 (List.mem_of_getElem? (i := 216) (by decide +kernel))) (by decide +kernel)
theorem m_851 : Cond.selects RX10 yX10_item yX10_item ∈ ALL := al_in (al_3 (List.mem_of_getElem? (i := 217) (by decide +kernel))) (by decide +kernel)
theorem m_852 : Cond.methodLink RL 129 yX11_item ∈ ALL := al_in (al_5 (List.mem_of_getElem? (i := 32) (by decide +kernel))) (by decide +kernel)
theorem m_853 : Cond.instanceMethod yX11_item ∈ ALL := al_in (al_5 (List.mem_of_getElem? (i := 33) (by decide +kernel))) (by decide +kernel)
theorem m_854 : Cond.selects RX11 yX11_item yX11_item ∈ ALL := al_in (al_5 (List.mem_of_getElem? (i := 34) (by decide +kernel))) (by decide +kernel)
theorem m_855 : Cond.methodLink RL 130 yX10_copy ∈ ALL := al_in (al_3 (List.mem_of_getElem? (i := 219) (by decide +kernel))) (by decide +kernel)
theorem m_856 : Cond.instanceMethod yX10_copy ∈ ALL := al_in (al_3 (List.mem_of_getElem? (i := 220) (by decide +kernel))) (by decide +kernel)
theorem m_857 : Cond.selects RX10 yX10_copy yX10_copy ∈ ALL := al_in (al_3 (List.mem_of_getElem? (i := 221) (by decide +kernel))) (by decide +kernel)
theorem m_858 : Cond.methodLink RL 133 yX11_copy ∈ ALL := al_in (al_5 (List.mem_of_getElem? (i := 36) (by decide +kernel))) (by decide +kernel)
theorem m_859 : Cond.instanceMethod yX11_copy ∈ ALL := al_in (al_5 (List.mem_of_getElem? (i := 37) (by decide +kernel))) (by decide +kernel)
theorem m_860 : Cond.selects RX11 yX11_copy yX11_copy ∈ ALL := al_in (al_5 (List.mem_of_getElem? (i := 38) (by decide +kernel))) (by decide +kernel)
theorem iX0 : ∀ w ∈ wsX00, w ∈ ALL := List.forall_mem_cons.mpr ⟨al_in (al_1 (List.mem_of_getElem? (i := 209) (by decide +kernel))) (by decide +kernel), fun _ h => absurd h List.not_mem_nil⟩
theorem iX1 : ∀ w ∈ wsX10, w ∈ ALL := List.forall_mem_cons.mpr ⟨al_in (al_2 (List.mem_of_getElem? (i := 2) (by decide +kernel))) (by decide +kernel), fun _ h => absurd h List.not_mem_nil⟩
theorem iX2 : ∀ w ∈ wsX20, w ∈ ALL := List.forall_mem_cons.mpr ⟨al_in (al_1 (List.mem_of_getElem? (i := 218) (by decide +kernel))) (by decide +kernel), fun _ h => absurd h List.not_mem_nil⟩
theorem iX3 : ∀ w ∈ wsX30, w ∈ ALL := List.forall_mem_cons.mpr ⟨al_in (al_1 (List.mem_of_getElem? (i := 66) (by decide +kernel))) (by decide +kernel), List.forall_mem_cons.mpr ⟨al_in (al_1 (List.mem_of_getElem? (i := 68) (by decide +kernel))) (by decide +kernel), List.forall_mem_cons.mpr ⟨al_in (al_1 (List.mem_of_getElem? (i := 70) (by decide +kernel))) (by decide +kernel), List.forall_mem_cons.mpr ⟨al_in (al_1 (List.mem_of_getElem? (i := 72) (by decide +kernel))) (by decide +kernel), List.forall_mem_cons.mpr ⟨al_in (al_1 (List.mem_of_getElem? (i := 74) (by decide +kernel))) (by decide +kernel), List.forall_mem_cons.mpr ⟨al_in (al_1 (List.mem_of_getElem? (i := 76) (by decide +kernel))) (by decide +kernel), List.forall_mem_cons.mpr ⟨al_in (al_1 (List.mem_of_getElem? (i := 78) (by decide +kernel))) (by decide +kernel), List.forall_mem_cons.mpr ⟨al_in (al_1 (List.mem_of_getElem? (i := 80) (by decide +kernel))) (by decide +kernel), List.forall_mem_cons.mpr ⟨al_in (al_1 (List.mem_of_getElem? (i := 82) (by decide +kernel))) (by decide +kernel), List.forall_mem_cons.mpr ⟨al_in (al_1 (List.mem_of_getElem? (i := 84) (by decide +kernel))) (by decide +kernel), List.forall_mem_cons.mpr ⟨al_in (al_1 (List.mem_of_getElem? (i := 86) (by decide +kernel))) (by decide +kernel), fun _ h => absurd h List.not_mem_nil⟩⟩⟩⟩⟩⟩⟩⟩⟩⟩⟩
theorem iX4 : ∀ w ∈ wsX40, w ∈ ALL := List.forall_mem_cons.mpr ⟨al_in (al_1 (List.mem_of_getElem? (i := 226) (by decide +kernel))) (by decide +kernel), fun _ h => absurd h List.not_mem_nil⟩
theorem iX5 : ∀ w ∈ wsX50, w ∈ ALL := List.forall_mem_cons.mpr ⟨al_in (al_1 (List.mem_of_getElem? (i := 103) (by decide +kernel))) (by decide +kernel), List.forall_mem_cons.mpr ⟨al_in (al_1 (List.mem_of_getElem? (i := 105) (by decide +kernel))) (by decide +kernel), List.forall_mem_cons.mpr ⟨al_in (al_1 (List.mem_of_getElem? (i := 107) (by decide +kernel))) (by decide +kernel), List.forall_mem_cons.mpr ⟨al_in (al_1 (List.mem_of_getElem? (i := 109) (by decide +kernel))) (by decide +kernel), List.forall_mem_cons.mpr ⟨al_in (al_1 (List.mem_of_getElem? (i := 111) (by decide +kernel))) (by decide +kernel), List.forall_mem_cons.mpr ⟨al_in (al_1 (List.mem_of_getElem? (i := 113) (by decide +kernel))) (by decide +kernel), fun _ h => absurd h List.not_mem_nil⟩⟩⟩⟩⟩⟩
theorem iX6 : ∀ w ∈ wsX60, w ∈ ALL := List.forall_mem_cons.mpr ⟨al_in (al_2 (List.mem_of_getElem? (i := 7) (by decide +kernel))) (by decide +kernel), fun _ h => absurd h List.not_mem_nil⟩
theorem iX7 : ∀ w ∈ wsX70, w ∈ ALL := List.forall_mem_cons.mpr ⟨al_in (al_1 (List.mem_of_getElem? (i := 153) (by decide +kernel))) (by decide +kernel), List.forall_mem_cons.mpr ⟨al_in (al_1 (List.mem_of_getElem? (i := 155) (by decide +kernel))) (by decide +kernel), List.forall_mem_cons.mpr ⟨al_in (al_1 (List.mem_of_getElem? (i := 157) (by decide +kernel))) (by decide +kernel), List.forall_mem_cons.mpr ⟨al_in (al_1 (List.mem_of_getElem? (i := 159) (by decide +kernel))) (by decide +kernel), fun _ h => absurd h List.not_mem_nil⟩⟩⟩⟩
theorem iX8 : ∀ w ∈ wsX80, w ∈ ALL := List.forall_mem_cons.mpr ⟨al_in (al_1 (List.mem_of_getElem? (i := 234) (by decide +kernel))) (by decide +kernel), fun _ h => absurd h List.not_mem_nil⟩
theorem iX9 : ∀ w ∈ wsX90, w ∈ ALL := List.forall_mem_cons.mpr ⟨al_in (al_1 (List.mem_of_getElem? (i := 128) (by decide +kernel))) (by decide +kernel), List.forall_mem_cons.mpr ⟨al_in (al_1 (List.mem_of_getElem? (i := 130) (by decide +kernel))) (by decide +kernel), List.forall_mem_cons.mpr ⟨al_in (al_1 (List.mem_of_getElem? (i := 132) (by decide +kernel))) (by decide +kernel), List.forall_mem_cons.mpr ⟨al_in (al_1 (List.mem_of_getElem? (i := 134) (by decide +kernel))) (by decide +kernel), fun _ h => absurd h List.not_mem_nil⟩⟩⟩⟩
theorem iX10 : ∀ w ∈ wsX100, w ∈ ALL := List.forall_mem_cons.mpr ⟨al_in (al_1 (List.mem_of_getElem? (i := 171) (by decide +kernel))) (by decide +kernel), List.forall_mem_cons.mpr ⟨al_in (al_1 (List.mem_of_getElem? (i := 173) (by decide +kernel))) (by decide +kernel), List.forall_mem_cons.mpr ⟨al_in (al_1 (List.mem_of_getElem? (i := 175) (by decide +kernel))) (by decide +kernel), List.forall_mem_cons.mpr ⟨al_in (al_1 (List.mem_of_getElem? (i := 177) (by decide +kernel))) (by decide +kernel), List.forall_mem_cons.mpr ⟨al_in (al_1 (List.mem_of_getElem? (i := 179) (by decide +kernel))) (by decide +kernel), List.forall_mem_cons.mpr ⟨al_in (al_1 (List.mem_of_getElem? (i := 181) (by decide +kernel))) (by decide +kernel), List.forall_mem_cons.mpr ⟨al_in (al_1 (List.mem_of_getElem? (i := 183) (by decide +kernel))) (by decide +kernel), List.forall_mem_cons.mpr ⟨al_in (al_1 (List.mem_of_getElem? (i := 185) (by decide +kernel))) (by decide +kernel), fun _ h => absurd h List.not_mem_nil⟩⟩⟩⟩⟩⟩⟩⟩
theorem iX11 : ∀ w ∈ wsX110, w ∈ ALL := List.forall_mem_cons.mpr ⟨al_in (al_4 (List.mem_of_getElem? (i := 13) (by decide +kernel))) (by decide +kernel), List.forall_mem_cons.mpr ⟨al_in (al_4 (List.mem_of_getElem? (i := 15) (by decide +kernel))) (by decide +kernel), List.forall_mem_cons.mpr ⟨al_in (al_4 (List.mem_of_getElem? (i := 17) (by decide +kernel))) (by decide +kernel), List.forall_mem_cons.mpr ⟨al_in (al_4 (List.mem_of_getElem? (i := 19) (by decide +kernel))) (by decide +kernel), List.forall_mem_cons.mpr ⟨al_in (al_4 (List.mem_of_getElem? (i := 21) (by decide +kernel))) (by decide +kernel), List.forall_mem_cons.mpr ⟨al_in (al_4 (List.mem_of_getElem? (i := 23) (by decide +kernel))) (by decide +kernel), List.forall_mem_cons.mpr ⟨al_in (al_4 (List.mem_of_getElem? (i := 25) (by decide +kernel))) (by decide +kernel), List.forall_mem_cons.mpr ⟨al_in (al_4 (List.mem_of_getElem? (i := 27) (by decide +kernel))) (by decide +kernel), List.forall_mem_cons.mpr ⟨al_in (al_4 (List.mem_of_getElem? (i := 29) (by decide +kernel))) (by decide +kernel), List.forall_mem_cons.mpr ⟨al_in (al_4 (List.mem_of_getElem? (i := 31) (by decide +kernel))) (by decide +kernel), List.forall_mem_cons.mpr ⟨al_in (al_4 (List.mem_of_getElem? (i := 33) (by decide +kernel))) (by decide +kernel), List.forall_mem_cons.mpr ⟨al_in (al_4 (List.mem_of_getElem? (i := 35) (by decide +kernel))) (by decide +kernel), List.forall_mem_cons.mpr ⟨al_in (al_4 (List.mem_of_getElem? (i := 37) (by decide +kernel))) (by decide +kernel), List.forall_mem_cons.mpr ⟨al_in (al_4 (List.mem_of_getElem? (i := 39) (by decide +kernel))) (by decide +kernel), List.forall_mem_cons.mpr ⟨al_in (al_4 (List.mem_of_getElem? (i := 41) (by decide +kernel))) (by decide +kernel), List.forall_mem_cons.mpr ⟨al_in (al_4 (List.mem_of_getElem? (i := 43) (by decide +kernel))) (by decide +kernel), List.forall_mem_cons.mpr ⟨al_in (al_4 (List.mem_of_getElem? (i := 45) (by decide +kernel))) (by decide +kernel), List.forall_mem_cons.mpr ⟨al_in (al_4 (List.mem_of_getElem? (i := 47) (by decide +kernel))) (by decide +kernel), List.forall_mem_cons.mpr ⟨al_in (al_4 (List.mem_of_getElem? (i := 49) (by decide +kernel))) (by decide +kernel), List.forall_mem_cons.mpr ⟨al_in (al_4 (List.mem_of_getElem? (i := 51) (by decide +kernel))) (by decide +kernel), List.forall_mem_cons.mpr ⟨al_in (al_4 (List.mem_of_getElem? (i := 53) (by decide +kernel))) (by decide +kernel), List.forall_mem_cons.mpr ⟨al_in (al_4 (List.mem_of_getElem? (i := 55) (by decide +kernel))) (by decide +kernel), fun _ h => absurd h List.not_mem_nil⟩⟩⟩⟩⟩⟩⟩⟩⟩⟩⟩⟩⟩⟩⟩⟩⟩⟩⟩⟩⟩⟩
/-- words that are not steady: nest mates, and who may lie in a row of Plain -/
def nwL : List Cond := [(Jvm.Cond.methodLinkNest "SeaJar$Tape" (70 : Nat) ({ cls := "SeaJar", name := "newPerson", desc := "(II)LSeaJar$Plain;" } : Jvm.MethodName) "SeaJar"), (Jvm.Cond.methodLinkNest "SeaJar$Tape" (82 : Nat) ({ cls := "SeaJar", name := "within", desc := "(III)Z" } : Jvm.MethodName) "SeaJar"), (Jvm.Cond.methodLinkNest "SeaJar" (49 : Nat) ({ cls := "SeaJar$Row", name := "<init>", desc := "()V" } : Jvm.MethodName) "SeaJar"), (Jvm.Cond.methodLinkNest "SeaJar" (38 : Nat) ({ cls := "SeaJar$Tape", name := "<init>", desc := "()V" } : Jvm.MethodName) "SeaJar"), (Jvm.Cond.methodLinkNest "SeaJar" (18 : Nat) ({ cls := "SeaJar$Past", name := "<init>", desc := "()V" } : Jvm.MethodName) "SeaJar"), (Jvm.Cond.methodLinkNest "SeaJar" (9 : Nat) ({ cls := "SeaJar$House", name := "<init>", desc := "()V" } : Jvm.MethodName) "SeaJar"), (Jvm.Cond.castable "SeaJar$Child" "SeaJar$Plain"), (Jvm.Cond.castable "SeaJar$Saint" "SeaJar$Plain"), (Jvm.Cond.castable "SeaJar$Hushed" "SeaJar$Plain"), (Jvm.Cond.castable "SeaJar$Guest" "SeaJar$Plain"), (Jvm.Cond.castable "SeaJar$Buyer" "SeaJar$Plain")]
theorem nwL_tab : ∀ w ∈ nwL, w.onTables = true := by decide +kernel
theorem nwL_form : ∀ w ∈ nwL, (∃ a i x h, w = Cond.methodLinkNest a i x h) ∨ (∃ a b, w = Cond.castable a b) := List.forall_mem_cons.mpr ⟨Or.inl ⟨_, _, _, _, rfl⟩, List.forall_mem_cons.mpr ⟨Or.inl ⟨_, _, _, _, rfl⟩, List.forall_mem_cons.mpr ⟨Or.inl ⟨_, _, _, _, rfl⟩, List.forall_mem_cons.mpr ⟨Or.inl ⟨_, _, _, _, rfl⟩, List.forall_mem_cons.mpr ⟨Or.inl ⟨_, _, _, _, rfl⟩, List.forall_mem_cons.mpr ⟨Or.inl ⟨_, _, _, _, rfl⟩, List.forall_mem_cons.mpr ⟨Or.inr ⟨_, _, rfl⟩, List.forall_mem_cons.mpr ⟨Or.inr ⟨_, _, rfl⟩, List.forall_mem_cons.mpr ⟨Or.inr ⟨_, _, rfl⟩, List.forall_mem_cons.mpr ⟨Or.inr ⟨_, _, rfl⟩, List.forall_mem_cons.mpr ⟨Or.inr ⟨_, _, rfl⟩, fun _ h => absurd h List.not_mem_nil⟩⟩⟩⟩⟩⟩⟩⟩⟩⟩⟩
theorem nwL_in : ∀ w ∈ nwL, w ∈ lw_tbl := List.forall_mem_cons.mpr ⟨al_3 (List.mem_of_getElem? (i := 38) (by decide +kernel)), List.forall_mem_cons.mpr ⟨al_2 (List.mem_of_getElem? (i := 174) (by decide +kernel)), List.forall_mem_cons.mpr ⟨al_1 (List.mem_of_getElem? (i := 141) (by decide +kernel)), List.forall_mem_cons.mpr ⟨al_1 (List.mem_of_getElem? (i := 118) (by decide +kernel)), List.forall_mem_cons.mpr ⟨al_1 (List.mem_of_getElem? (i := 92) (by decide +kernel)), List.forall_mem_cons.mpr ⟨al_1 (List.mem_of_getElem? (i := 31) (by decide +kernel)), List.forall_mem_cons.mpr ⟨al_5 (List.mem_of_getElem? (i := 45) (by decide +kernel)), List.forall_mem_cons.mpr ⟨al_5 (List.mem_of_getElem? (i := 44) (by decide +kernel)), List.forall_mem_cons.mpr ⟨al_5 (List.mem_of_getElem? (i := 43) (by decide +kernel)), List.forall_mem_cons.mpr ⟨al_5 (List.mem_of_getElem? (i := 42) (by decide +kernel)), List.forall_mem_cons.mpr ⟨al_5 (List.mem_of_getElem? (i := 41) (by decide +kernel)), fun _ h => absurd h List.not_mem_nil⟩⟩⟩⟩⟩⟩⟩⟩⟩⟩⟩
theorem nw_0 : Jvm.Cond.methodLinkNest "SeaJar$Tape" (70 : Nat) ({ cls := "SeaJar", name := "newPerson", desc := "(II)LSeaJar$Plain;" } : Jvm.MethodName) "SeaJar" ∈ nwL := List.mem_of_getElem? (i := 0) rfl
theorem nw_1 : Jvm.Cond.methodLinkNest "SeaJar$Tape" (82 : Nat) ({ cls := "SeaJar", name := "within", desc := "(III)Z" } : Jvm.MethodName) "SeaJar" ∈ nwL := List.mem_of_getElem? (i := 1) rfl
theorem nw_2 : Jvm.Cond.methodLinkNest "SeaJar" (49 : Nat) ({ cls := "SeaJar$Row", name := "<init>", desc := "()V" } : Jvm.MethodName) "SeaJar" ∈ nwL := List.mem_of_getElem? (i := 2) rfl
theorem nw_3 : Jvm.Cond.methodLinkNest "SeaJar" (38 : Nat) ({ cls := "SeaJar$Tape", name := "<init>", desc := "()V" } : Jvm.MethodName) "SeaJar" ∈ nwL := List.mem_of_getElem? (i := 3) rfl
theorem nw_4 : Jvm.Cond.methodLinkNest "SeaJar" (18 : Nat) ({ cls := "SeaJar$Past", name := "<init>", desc := "()V" } : Jvm.MethodName) "SeaJar" ∈ nwL := List.mem_of_getElem? (i := 4) rfl
theorem nw_5 : Jvm.Cond.methodLinkNest "SeaJar" (9 : Nat) ({ cls := "SeaJar$House", name := "<init>", desc := "()V" } : Jvm.MethodName) "SeaJar" ∈ nwL := List.mem_of_getElem? (i := 5) rfl
theorem nw_6 : Jvm.Cond.castable "SeaJar$Child" "SeaJar$Plain" ∈ nwL := List.mem_of_getElem? (i := 6) rfl
theorem nw_7 : Jvm.Cond.castable "SeaJar$Saint" "SeaJar$Plain" ∈ nwL := List.mem_of_getElem? (i := 7) rfl
theorem nw_8 : Jvm.Cond.castable "SeaJar$Hushed" "SeaJar$Plain" ∈ nwL := List.mem_of_getElem? (i := 8) rfl
theorem nw_9 : Jvm.Cond.castable "SeaJar$Guest" "SeaJar$Plain" ∈ nwL := List.mem_of_getElem? (i := 9) rfl
theorem nw_10 : Jvm.Cond.castable "SeaJar$Buyer" "SeaJar$Plain" ∈ nwL := List.mem_of_getElem? (i := 10) rfl
