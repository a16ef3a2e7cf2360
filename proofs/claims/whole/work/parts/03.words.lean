def lw_g : List Cond := lw_tbl.filter goodWord
theorem gd {w : Cond} (h : w ∈ lw_tbl) (h2 : goodWord w = true) : w ∈ lw_g := List.mem_filter.mpr ⟨h, h2⟩
theorem lw_g_good : ∀ w ∈ lw_g, ((w.onTables && w.keeps) = true ∨ ∃ ty, w = .arrayClass ty) := fun w h => good_of_word (List.mem_filter.mp h).2
theorem lw_g_tbl : ∀ w ∈ lw_g, w ∈ lw_tbl := fun w h => (List.mem_filter.mp h).1
theorem tb_1 : ∀ w ∈ tables_1_1, w ∈ lw_tbl := fun _ h => List.mem_append_right _ (List.mem_append_left _ h)
theorem tb_2 : ∀ w ∈ tables_1_2, w ∈ lw_tbl := fun _ h => List.mem_append_right _ (List.mem_append_right _ (List.mem_append_left _ h))
theorem tb_3 : ∀ w ∈ tables_1_3, w ∈ lw_tbl := fun _ h => List.mem_append_right _ (List.mem_append_right _ (List.mem_append_right _ (List.mem_append_left _ h)))
theorem tb_4 : ∀ w ∈ tables_1_4, w ∈ lw_tbl := fun _ h => List.mem_append_right _ (List.mem_append_right _ (List.mem_append_right _ (List.mem_append_right _ (List.mem_append_left _ h))))
theorem tb_5 : ∀ w ∈ tables_1_5, w ∈ lw_tbl := fun _ h => List.mem_append_right _ (List.mem_append_right _ (List.mem_append_right _ (List.mem_append_right _ (List.mem_append_right _ (List.mem_append_left _ h)))))
theorem tb_6 : ∀ w ∈ tables_1_6, w ∈ lw_tbl := fun _ h => List.mem_append_right _ (List.mem_append_right _ (List.mem_append_right _ (List.mem_append_right _ (List.mem_append_right _ (List.mem_append_right _ (h))))))
theorem wZ_L : Cond.initialized RL ∈ lw_g := gd (tb_1 _ (List.mem_of_getElem? (i := 0) rfl)) rfl
theorem wZ_X8 : Cond.initialized RX8 ∈ lw_g := gd (tb_1 _ (List.mem_of_getElem? (i := 1) rfl)) rfl
theorem wZ_X2 : Cond.initialized RX2 ∈ lw_g := gd (tb_1 _ (List.mem_of_getElem? (i := 2) rfl)) rfl
theorem wZ_X7 : Cond.initialized RX7 ∈ lw_g := gd (tb_1 _ (List.mem_of_getElem? (i := 3) rfl)) rfl
theorem wZ_X6 : Cond.initialized RX6 ∈ lw_g := gd (tb_1 _ (List.mem_of_getElem? (i := 4) rfl)) rfl
theorem wZ_X4 : Cond.initialized RX4 ∈ lw_g := gd (tb_1 _ (List.mem_of_getElem? (i := 5) rfl)) rfl
theorem wZ_X5 : Cond.initialized RX5 ∈ lw_g := gd (tb_1 _ (List.mem_of_getElem? (i := 6) rfl)) rfl
theorem wZ_X0 : Cond.initialized RX0 ∈ lw_g := gd (tb_1 _ (List.mem_of_getElem? (i := 7) rfl)) rfl
theorem wZ_X9 : Cond.initialized RX9 ∈ lw_g := gd (tb_1 _ (List.mem_of_getElem? (i := 8) rfl)) rfl
theorem wZ_X1 : Cond.initialized RX1 ∈ lw_g := gd (tb_1 _ (List.mem_of_getElem? (i := 9) rfl)) rfl
theorem wZ_X3 : Cond.initialized RX3 ∈ lw_g := gd (tb_1 _ (List.mem_of_getElem? (i := 10) rfl)) rfl
theorem wZ_java_lang_Float : Cond.initialized "java/lang/Float" ∈ lw_g := gd (tb_1 _ (List.mem_of_getElem? (i := 11) rfl)) rfl
theorem wZ_java_lang_Double : Cond.initialized "java/lang/Double" ∈ lw_g := gd (tb_1 _ (List.mem_of_getElem? (i := 12) rfl)) rfl
theorem wZ_J9 : Cond.initialized RJ9 ∈ lw_g := gd (tb_1 _ (List.mem_of_getElem? (i := 13) rfl)) rfl
theorem wC_L_7 : Cond.classLink RL 7 RX8 ∈ lw_g := gd (tb_1 _ (List.mem_of_getElem? (i := 14) rfl)) rfl
theorem wT_X8 : Cond.instantiable RX8 9 ∈ lw_g := gd (tb_1 _ (List.mem_of_getElem? (i := 15) rfl)) rfl
theorem wM_L_9 : Cond.methodLink RL 9 yX8_init ∈ lw_g := gd (tb_1 _ (List.mem_of_getElem? (i := 16) rfl)) rfl
theorem wI_X8_init : Cond.instanceMethod yX8_init ∈ lw_g := gd (tb_1 _ (List.mem_of_getElem? (i := 17) rfl)) rfl
theorem wK_X8_init : Cond.code yX8_init cX8_init 1 none ∈ lw_g := gd (tb_1 _ (List.mem_of_getElem? (i := 18) rfl)) rfl
theorem wM_X8_1 : Cond.methodLink RX8 1 objectInit ∈ lw_g := gd (tb_1 _ (List.mem_of_getElem? (i := 19) rfl)) rfl
theorem wI_java_lang_Object__init____V : Cond.instanceMethod objectInit ∈ lw_g := gd (tb_1 _ (List.mem_of_getElem? (i := 20) rfl)) rfl
theorem wK_java_lang_Object__init____V : Cond.code objectInit object_method_1_code 1 none ∈ lw_g := gd (tb_1 _ (List.mem_of_getElem? (i := 21) rfl)) rfl
theorem wC_X8_7 : Cond.classLink RX8 7 RX2 ∈ lw_g := gd (tb_1 _ (List.mem_of_getElem? (i := 22) rfl)) rfl
theorem wT_X2 : Cond.instantiable RX2 2 ∈ lw_g := gd (tb_1 _ (List.mem_of_getElem? (i := 23) rfl)) rfl
theorem wN_X8_9 : Cond.methodLinkNest RX8 9 yX2_init "Edits13" ∈ lw_tbl := tb_1 _ (List.mem_of_getElem? (i := 24) rfl)
theorem wI_X2_init : Cond.instanceMethod yX2_init ∈ lw_g := gd (tb_1 _ (List.mem_of_getElem? (i := 25) rfl)) rfl
theorem wK_X2_init : Cond.code yX2_init cX2_init 1 none ∈ lw_g := gd (tb_1 _ (List.mem_of_getElem? (i := 26) rfl)) rfl
theorem wM_X2_3 : Cond.methodLink RX2 3 objectInit ∈ lw_g := gd (tb_1 _ (List.mem_of_getElem? (i := 27) rfl)) rfl
theorem wC_X2_9 : Cond.classLink RX2 9 RX7 ∈ lw_g := gd (tb_1 _ (List.mem_of_getElem? (i := 28) rfl)) rfl
theorem wT_X7 : Cond.instantiable RX7 11 ∈ lw_g := gd (tb_1 _ (List.mem_of_getElem? (i := 29) rfl)) rfl
theorem wN_X2_11 : Cond.methodLinkNest RX2 11 yX7_init "Edits13" ∈ lw_tbl := tb_1 _ (List.mem_of_getElem? (i := 30) rfl)
theorem wI_X7_init : Cond.instanceMethod yX7_init ∈ lw_g := gd (tb_1 _ (List.mem_of_getElem? (i := 31) rfl)) rfl
theorem wK_X7_init : Cond.code yX7_init cX7_init 1 none ∈ lw_g := gd (tb_1 _ (List.mem_of_getElem? (i := 32) rfl)) rfl
theorem wM_X7_3 : Cond.methodLink RX7 3 objectInit ∈ lw_g := gd (tb_1 _ (List.mem_of_getElem? (i := 33) rfl)) rfl
theorem wF_X7_34 : Cond.fieldLink RX7 34 "Edits13$Types" "size" "I" ∈ lw_g := gd (tb_1 _ (List.mem_of_getElem? (i := 34) rfl)) rfl
theorem wF_X8_59 : Cond.fieldLink RX8 59 "Edits13$Types" "size" "I" ∈ lw_g := gd (tb_1 _ (List.mem_of_getElem? (i := 35) rfl)) rfl
theorem wF_X2_161 : Cond.fieldLink RX2 161 "Edits13$Types" "size" "I" ∈ lw_g := gd (tb_1 _ (List.mem_of_getElem? (i := 36) rfl)) rfl
theorem wF_X7_11 : Cond.fieldLink RX7 11 "Edits13$Types" "isFace" "[Z" ∈ lw_g := gd (tb_1 _ (List.mem_of_getElem? (i := 37) rfl)) rfl
theorem wF_X7_15 : Cond.fieldLink RX7 15 "Edits13$Types" "above" "[I" ∈ lw_g := gd (tb_1 _ (List.mem_of_getElem? (i := 38) rfl)) rfl
theorem wF_X7_19 : Cond.fieldLink RX7 19 "Edits13$Types" "marks" "[I" ∈ lw_g := gd (tb_1 _ (List.mem_of_getElem? (i := 39) rfl)) rfl
theorem wF_X7_22 : Cond.fieldLink RX7 22 "Edits13$Types" "faceCount" "[I" ∈ lw_g := gd (tb_1 _ (List.mem_of_getElem? (i := 40) rfl)) rfl
theorem wF_X7_25 : Cond.fieldLink RX7 25 "Edits13$Types" "faces" "[I" ∈ lw_g := gd (tb_1 _ (List.mem_of_getElem? (i := 41) rfl)) rfl
theorem wF_X7_28 : Cond.fieldLink RX7 28 "Edits13$Types" "over" "[I" ∈ lw_g := gd (tb_1 _ (List.mem_of_getElem? (i := 42) rfl)) rfl
theorem wF_X7_38 : Cond.fieldLink RX7 38 "Edits13$Types" "classes" "I" ∈ lw_g := gd (tb_1 _ (List.mem_of_getElem? (i := 43) rfl)) rfl
theorem wF_X7_31 : Cond.fieldLink RX7 31 "Edits13$Types" "order" "[I" ∈ lw_g := gd (tb_1 _ (List.mem_of_getElem? (i := 44) rfl)) rfl
theorem wF_X2_136 : Cond.fieldLink RX2 136 "Edits13$Types" "ordered" "I" ∈ lw_g := gd (tb_1 _ (List.mem_of_getElem? (i := 45) rfl)) rfl
theorem wF_X7_74 : Cond.fieldLink RX7 74 "Edits13$Types" "ordered" "I" ∈ lw_g := gd (tb_1 _ (List.mem_of_getElem? (i := 46) rfl)) rfl
theorem wF_X7_77 : Cond.fieldLink RX7 77 "Edits13$Types" "seen" "I" ∈ lw_g := gd (tb_1 _ (List.mem_of_getElem? (i := 47) rfl)) rfl
theorem wC_X2_18 : Cond.classLink RX2 18 RX6 ∈ lw_g := gd (tb_1 _ (List.mem_of_getElem? (i := 73) rfl)) rfl
theorem wT_X6 : Cond.instantiable RX6 8 ∈ lw_g := gd (tb_1 _ (List.mem_of_getElem? (i := 74) rfl)) rfl
theorem wM_X2_20 : Cond.methodLink RX2 20 yX6_init ∈ lw_g := gd (tb_1 _ (List.mem_of_getElem? (i := 75) rfl)) rfl
theorem wI_X6_init : Cond.instanceMethod yX6_init ∈ lw_g := gd (tb_1 _ (List.mem_of_getElem? (i := 76) rfl)) rfl
theorem wK_X6_init : Cond.code yX6_init cX6_init 2 none ∈ lw_g := gd (tb_1 _ (List.mem_of_getElem? (i := 77) rfl)) rfl
theorem wM_X6_3 : Cond.methodLink RX6 3 objectInit ∈ lw_g := gd (tb_1 _ (List.mem_of_getElem? (i := 78) rfl)) rfl
theorem wF_X6_35 : Cond.fieldLink RX6 35 "Edits13$Members" "size" "I" ∈ lw_g := gd (tb_1 _ (List.mem_of_getElem? (i := 79) rfl)) rfl
theorem wF_X8_210 : Cond.fieldLink RX8 210 "Edits13$Members" "size" "I" ∈ lw_g := gd (tb_1 _ (List.mem_of_getElem? (i := 80) rfl)) rfl
theorem wF_X6_11 : Cond.fieldLink RX6 11 "Edits13$Members" "owner" "[I" ∈ lw_g := gd (tb_1 _ (List.mem_of_getElem? (i := 81) rfl)) rfl
theorem wF_X2_119 : Cond.fieldLink RX2 119 "Edits13$Members" "owner" "[I" ∈ lw_g := gd (tb_1 _ (List.mem_of_getElem? (i := 82) rfl)) rfl
theorem wF_X6_15 : Cond.fieldLink RX6 15 "Edits13$Members" "isMethod" "[Z" ∈ lw_g := gd (tb_1 _ (List.mem_of_getElem? (i := 83) rfl)) rfl
theorem wF_X6_19 : Cond.fieldLink RX6 19 "Edits13$Members" "name" "[I" ∈ lw_g := gd (tb_1 _ (List.mem_of_getElem? (i := 84) rfl)) rfl
theorem wF_X4_123 : Cond.fieldLink RX4 123 "Edits13$Members" "name" "[I" ∈ lw_g := gd (tb_1 _ (List.mem_of_getElem? (i := 85) rfl)) rfl
theorem wF_X2_179 : Cond.fieldLink RX2 179 "Edits13$Members" "name" "[I" ∈ lw_g := gd (tb_1 _ (List.mem_of_getElem? (i := 86) rfl)) rfl
theorem wF_X8_197 : Cond.fieldLink RX8 197 "Edits13$Members" "name" "[I" ∈ lw_g := gd (tb_1 _ (List.mem_of_getElem? (i := 87) rfl)) rfl
theorem wF_X6_22 : Cond.fieldLink RX6 22 "Edits13$Members" "marks" "[I" ∈ lw_g := gd (tb_1 _ (List.mem_of_getElem? (i := 88) rfl)) rfl
theorem wF_X2_126 : Cond.fieldLink RX2 126 "Edits13$Members" "marks" "[I" ∈ lw_g := gd (tb_1 _ (List.mem_of_getElem? (i := 89) rfl)) rfl
theorem wF_X6_25 : Cond.fieldLink RX6 25 "Edits13$Members" "first" "[I" ∈ lw_g := gd (tb_1 _ (List.mem_of_getElem? (i := 90) rfl)) rfl
theorem wF_X4_66 : Cond.fieldLink RX4 66 "Edits13$Members" "first" "[I" ∈ lw_g := gd (tb_1 _ (List.mem_of_getElem? (i := 91) rfl)) rfl
theorem wF_X5_92 : Cond.fieldLink RX5 92 "Edits13$Members" "first" "[I" ∈ lw_g := gd (tb_1 _ (List.mem_of_getElem? (i := 92) rfl)) rfl
theorem wF_X2_182 : Cond.fieldLink RX2 182 "Edits13$Members" "first" "[I" ∈ lw_g := gd (tb_1 _ (List.mem_of_getElem? (i := 93) rfl)) rfl
theorem wF_X8_200 : Cond.fieldLink RX8 200 "Edits13$Members" "first" "[I" ∈ lw_g := gd (tb_1 _ (List.mem_of_getElem? (i := 94) rfl)) rfl
theorem wF_X6_28 : Cond.fieldLink RX6 28 "Edits13$Members" "second" "[I" ∈ lw_g := gd (tb_1 _ (List.mem_of_getElem? (i := 95) rfl)) rfl
theorem wF_X4_110 : Cond.fieldLink RX4 110 "Edits13$Members" "second" "[I" ∈ lw_g := gd (tb_1 _ (List.mem_of_getElem? (i := 96) rfl)) rfl
theorem wF_X2_185 : Cond.fieldLink RX2 185 "Edits13$Members" "second" "[I" ∈ lw_g := gd (tb_1 _ (List.mem_of_getElem? (i := 97) rfl)) rfl
theorem wF_X8_203 : Cond.fieldLink RX8 203 "Edits13$Members" "second" "[I" ∈ lw_g := gd (tb_1 _ (List.mem_of_getElem? (i := 98) rfl)) rfl
theorem wF_X6_31 : Cond.fieldLink RX6 31 "Edits13$Members" "value" "[J" ∈ lw_g := gd (tb_1 _ (List.mem_of_getElem? (i := 99) rfl)) rfl
theorem wF_X4_83 : Cond.fieldLink RX4 83 "Edits13$Members" "value" "[J" ∈ lw_g := gd (tb_1 _ (List.mem_of_getElem? (i := 100) rfl)) rfl
theorem wF_X5_105 : Cond.fieldLink RX5 105 "Edits13$Members" "value" "[J" ∈ lw_g := gd (tb_1 _ (List.mem_of_getElem? (i := 101) rfl)) rfl
theorem wF_X2_12 : Cond.fieldLink RX2 12 "Edits13$House" "types" "LEdits13$Types;" ∈ lw_g := gd (tb_1 _ (List.mem_of_getElem? (i := 120) rfl)) rfl
theorem wF_X8_49 : Cond.fieldLink RX8 49 "Edits13$House" "types" "LEdits13$Types;" ∈ lw_g := gd (tb_1 _ (List.mem_of_getElem? (i := 121) rfl)) rfl
theorem wF_X5_19 : Cond.fieldLink RX5 19 "Edits13$House" "types" "LEdits13$Types;" ∈ lw_g := gd (tb_1 _ (List.mem_of_getElem? (i := 122) rfl)) rfl
theorem wF_X4_34 : Cond.fieldLink RX4 34 "Edits13$House" "types" "LEdits13$Types;" ∈ lw_g := gd (tb_1 _ (List.mem_of_getElem? (i := 123) rfl)) rfl
theorem wF_X2_21 : Cond.fieldLink RX2 21 "Edits13$House" "members" "LEdits13$Members;" ∈ lw_g := gd (tb_1 _ (List.mem_of_getElem? (i := 124) rfl)) rfl
theorem wF_X4_52 : Cond.fieldLink RX4 52 "Edits13$House" "members" "LEdits13$Members;" ∈ lw_g := gd (tb_1 _ (List.mem_of_getElem? (i := 125) rfl)) rfl
theorem wF_X5_72 : Cond.fieldLink RX5 72 "Edits13$House" "members" "LEdits13$Members;" ∈ lw_g := gd (tb_1 _ (List.mem_of_getElem? (i := 126) rfl)) rfl
theorem wF_X8_95 : Cond.fieldLink RX8 95 "Edits13$House" "members" "LEdits13$Members;" ∈ lw_g := gd (tb_1 _ (List.mem_of_getElem? (i := 127) rfl)) rfl
theorem wC_X8_16 : Cond.classLink RX8 16 RX4 ∈ lw_g := gd (tb_1 _ (List.mem_of_getElem? (i := 133) rfl)) rfl
theorem wT_X4 : Cond.instantiable RX4 3 ∈ lw_g := gd (tb_1 _ (List.mem_of_getElem? (i := 134) rfl)) rfl
theorem wM_X8_18 : Cond.methodLink RX8 18 yX4_init ∈ lw_g := gd (tb_1 _ (List.mem_of_getElem? (i := 135) rfl)) rfl
theorem wI_X4_init : Cond.instanceMethod yX4_init ∈ lw_g := gd (tb_1 _ (List.mem_of_getElem? (i := 136) rfl)) rfl
theorem wK_X4_init : Cond.code yX4_init cX4_init 2 none ∈ lw_g := gd (tb_1 _ (List.mem_of_getElem? (i := 137) rfl)) rfl
theorem wM_X4_3 : Cond.methodLink RX4 3 objectInit ∈ lw_g := gd (tb_1 _ (List.mem_of_getElem? (i := 138) rfl)) rfl
theorem wF_X4_17 : Cond.fieldLink RX4 17 "Edits13$Maker" "house" "LEdits13$House;" ∈ lw_g := gd (tb_1 _ (List.mem_of_getElem? (i := 139) rfl)) rfl
theorem wF_X4_11 : Cond.fieldLink RX4 11 "Edits13$Maker" "fitting" "[I" ∈ lw_g := gd (tb_1 _ (List.mem_of_getElem? (i := 140) rfl)) rfl
theorem wF_X4_95 : Cond.fieldLink RX4 95 "Edits13$Maker" "fittingCount" "I" ∈ lw_g := gd (tb_1 _ (List.mem_of_getElem? (i := 141) rfl)) rfl
theorem wC_X8_25 : Cond.classLink RX8 25 RX5 ∈ lw_g := gd (tb_1 _ (List.mem_of_getElem? (i := 149) rfl)) rfl
theorem wT_X5 : Cond.instantiable RX5 2 ∈ lw_g := gd (tb_1 _ (List.mem_of_getElem? (i := 150) rfl)) rfl
theorem wM_X8_27 : Cond.methodLink RX8 27 yX5_init ∈ lw_g := gd (tb_1 _ (List.mem_of_getElem? (i := 151) rfl)) rfl
theorem wI_X5_init : Cond.instanceMethod yX5_init ∈ lw_g := gd (tb_1 _ (List.mem_of_getElem? (i := 152) rfl)) rfl
theorem wK_X5_init : Cond.code yX5_init cX5_init 2 none ∈ lw_g := gd (tb_1 _ (List.mem_of_getElem? (i := 153) rfl)) rfl
theorem wM_X5_3 : Cond.methodLink RX5 3 objectInit ∈ lw_g := gd (tb_1 _ (List.mem_of_getElem? (i := 154) rfl)) rfl
theorem wF_X5_9 : Cond.fieldLink RX5 9 "Edits13$Meeting" "house" "LEdits13$House;" ∈ lw_g := gd (tb_1 _ (List.mem_of_getElem? (i := 155) rfl)) rfl
theorem wF_X5_15 : Cond.fieldLink RX5 15 "Edits13$Meeting" "found" "J" ∈ lw_g := gd (tb_1 _ (List.mem_of_getElem? (i := 156) rfl)) rfl
theorem wF_X8_232 : Cond.fieldLink RX8 232 "Edits13$Meeting" "found" "J" ∈ lw_g := gd (tb_1 _ (List.mem_of_getElem? (i := 157) rfl)) rfl
theorem wC_X8_32 : Cond.classLink RX8 32 RX1 ∈ lw_g := gd (tb_1 _ (List.mem_of_getElem? (i := 163) rfl)) rfl
theorem wC_X8_38 : Cond.classLink RX8 38 RX0 ∈ lw_g := gd (tb_1 _ (List.mem_of_getElem? (i := 165) rfl)) rfl
theorem wT_X0 : Cond.instantiable RX0 13 ∈ lw_g := gd (tb_1 _ (List.mem_of_getElem? (i := 167) rfl)) rfl
theorem wN_X8_44 : Cond.methodLinkNest RX8 44 yX0_init "Edits13" ∈ lw_tbl := tb_1 _ (List.mem_of_getElem? (i := 168) rfl)
theorem wI_X0_init : Cond.instanceMethod yX0_init ∈ lw_g := gd (tb_1 _ (List.mem_of_getElem? (i := 169) rfl)) rfl
theorem wK_X0_init : Cond.code yX0_init cX0_init 1 none ∈ lw_g := gd (tb_1 _ (List.mem_of_getElem? (i := 170) rfl)) rfl
theorem wM_X0_3 : Cond.methodLink RX0 3 objectInit ∈ lw_g := gd (tb_1 _ (List.mem_of_getElem? (i := 171) rfl)) rfl
theorem wF_X4_21 : Cond.fieldLink RX4 21 "Edits13$Caller" "sort" "I" ∈ lw_g := gd (tb_1 _ (List.mem_of_getElem? (i := 172) rfl)) rfl
theorem wF_X0_9 : Cond.fieldLink RX0 9 "Edits13$Caller" "sort" "I" ∈ lw_g := gd (tb_1 _ (List.mem_of_getElem? (i := 173) rfl)) rfl
theorem wF_X5_58 : Cond.fieldLink RX5 58 "Edits13$Caller" "sort" "I" ∈ lw_g := gd (tb_1 _ (List.mem_of_getElem? (i := 174) rfl)) rfl
theorem wF_X8_167 : Cond.fieldLink RX8 167 "Edits13$Caller" "sort" "I" ∈ lw_g := gd (tb_1 _ (List.mem_of_getElem? (i := 175) rfl)) rfl
theorem wF_X0_15 : Cond.fieldLink RX0 15 "Edits13$Caller" "t" "I" ∈ lw_g := gd (tb_1 _ (List.mem_of_getElem? (i := 176) rfl)) rfl
theorem wF_X5_25 : Cond.fieldLink RX5 25 "Edits13$Caller" "t" "I" ∈ lw_g := gd (tb_1 _ (List.mem_of_getElem? (i := 177) rfl)) rfl
theorem wF_X4_40 : Cond.fieldLink RX4 40 "Edits13$Caller" "t" "I" ∈ lw_g := gd (tb_1 _ (List.mem_of_getElem? (i := 178) rfl)) rfl
theorem wF_X8_158 : Cond.fieldLink RX8 158 "Edits13$Caller" "t" "I" ∈ lw_g := gd (tb_1 _ (List.mem_of_getElem? (i := 179) rfl)) rfl
theorem wF_X0_18 : Cond.fieldLink RX0 18 "Edits13$Caller" "n" "I" ∈ lw_g := gd (tb_1 _ (List.mem_of_getElem? (i := 180) rfl)) rfl
theorem wF_X4_56 : Cond.fieldLink RX4 56 "Edits13$Caller" "n" "I" ∈ lw_g := gd (tb_1 _ (List.mem_of_getElem? (i := 181) rfl)) rfl
theorem wF_X5_76 : Cond.fieldLink RX5 76 "Edits13$Caller" "n" "I" ∈ lw_g := gd (tb_1 _ (List.mem_of_getElem? (i := 182) rfl)) rfl
theorem wF_X8_170 : Cond.fieldLink RX8 170 "Edits13$Caller" "n" "I" ∈ lw_g := gd (tb_1 _ (List.mem_of_getElem? (i := 183) rfl)) rfl
theorem wF_X0_21 : Cond.fieldLink RX0 21 "Edits13$Caller" "a" "I" ∈ lw_g := gd (tb_1 _ (List.mem_of_getElem? (i := 184) rfl)) rfl
theorem wF_X4_126 : Cond.fieldLink RX4 126 "Edits13$Caller" "a" "I" ∈ lw_g := gd (tb_1 _ (List.mem_of_getElem? (i := 185) rfl)) rfl
theorem wF_X8_161 : Cond.fieldLink RX8 161 "Edits13$Caller" "a" "I" ∈ lw_g := gd (tb_1 _ (List.mem_of_getElem? (i := 186) rfl)) rfl
theorem wF_X0_24 : Cond.fieldLink RX0 24 "Edits13$Caller" "b" "I" ∈ lw_g := gd (tb_1 _ (List.mem_of_getElem? (i := 187) rfl)) rfl
theorem wF_X4_132 : Cond.fieldLink RX4 132 "Edits13$Caller" "b" "I" ∈ lw_g := gd (tb_1 _ (List.mem_of_getElem? (i := 188) rfl)) rfl
theorem wF_X8_164 : Cond.fieldLink RX8 164 "Edits13$Caller" "b" "I" ∈ lw_g := gd (tb_1 _ (List.mem_of_getElem? (i := 189) rfl)) rfl
theorem wF_X0_27 : Cond.fieldLink RX0 27 "Edits13$Caller" "first" "I" ∈ lw_g := gd (tb_1 _ (List.mem_of_getElem? (i := 190) rfl)) rfl
theorem wF_X5_37 : Cond.fieldLink RX5 37 "Edits13$Caller" "first" "I" ∈ lw_g := gd (tb_1 _ (List.mem_of_getElem? (i := 191) rfl)) rfl
theorem wF_X4_108 : Cond.fieldLink RX4 108 "Edits13$Caller" "first" "I" ∈ lw_g := gd (tb_1 _ (List.mem_of_getElem? (i := 192) rfl)) rfl
theorem wF_X5_40 : Cond.fieldLink RX5 40 "Edits13$Caller" "second" "I" ∈ lw_g := gd (tb_1 _ (List.mem_of_getElem? (i := 193) rfl)) rfl
theorem wF_X0_30 : Cond.fieldLink RX0 30 "Edits13$Caller" "second" "I" ∈ lw_g := gd (tb_1 _ (List.mem_of_getElem? (i := 194) rfl)) rfl
theorem wF_X4_113 : Cond.fieldLink RX4 113 "Edits13$Caller" "second" "I" ∈ lw_g := gd (tb_1 _ (List.mem_of_getElem? (i := 195) rfl)) rfl
theorem wF_X0_33 : Cond.fieldLink RX0 33 "Edits13$Caller" "kind" "I" ∈ lw_g := gd (tb_1 _ (List.mem_of_getElem? (i := 196) rfl)) rfl
theorem wF_X4_69 : Cond.fieldLink RX4 69 "Edits13$Caller" "kind" "I" ∈ lw_g := gd (tb_1 _ (List.mem_of_getElem? (i := 197) rfl)) rfl
theorem wF_X5_97 : Cond.fieldLink RX5 97 "Edits13$Caller" "kind" "I" ∈ lw_g := gd (tb_1 _ (List.mem_of_getElem? (i := 198) rfl)) rfl
theorem wF_X0_36 : Cond.fieldLink RX0 36 "Edits13$Caller" "isStatic" "Z" ∈ lw_g := gd (tb_1 _ (List.mem_of_getElem? (i := 199) rfl)) rfl
theorem wF_X5_86 : Cond.fieldLink RX5 86 "Edits13$Caller" "isStatic" "Z" ∈ lw_g := gd (tb_1 _ (List.mem_of_getElem? (i := 200) rfl)) rfl
theorem wF_X4_76 : Cond.fieldLink RX4 76 "Edits13$Caller" "isStatic" "Z" ∈ lw_g := gd (tb_1 _ (List.mem_of_getElem? (i := 201) rfl)) rfl
theorem wF_X0_40 : Cond.fieldLink RX0 40 "Edits13$Caller" "onFace" "Z" ∈ lw_g := gd (tb_1 _ (List.mem_of_getElem? (i := 202) rfl)) rfl
theorem wF_X5_116 : Cond.fieldLink RX5 116 "Edits13$Caller" "onFace" "Z" ∈ lw_g := gd (tb_1 _ (List.mem_of_getElem? (i := 203) rfl)) rfl
theorem wF_X4_105 : Cond.fieldLink RX4 105 "Edits13$Caller" "onFace" "Z" ∈ lw_g := gd (tb_1 _ (List.mem_of_getElem? (i := 204) rfl)) rfl
theorem wF_X5_47 : Cond.fieldLink RX5 47 "Edits13$Caller" "keeps" "Z" ∈ lw_g := gd (tb_1 _ (List.mem_of_getElem? (i := 205) rfl)) rfl
theorem wF_X0_43 : Cond.fieldLink RX0 43 "Edits13$Caller" "keeps" "Z" ∈ lw_g := gd (tb_1 _ (List.mem_of_getElem? (i := 206) rfl)) rfl
theorem wF_X4_80 : Cond.fieldLink RX4 80 "Edits13$Caller" "keeps" "Z" ∈ lw_g := gd (tb_1 _ (List.mem_of_getElem? (i := 207) rfl)) rfl
theorem wF_X5_51 : Cond.fieldLink RX5 51 "Edits13$Caller" "kept" "J" ∈ lw_g := gd (tb_1 _ (List.mem_of_getElem? (i := 208) rfl)) rfl
theorem wF_X0_46 : Cond.fieldLink RX0 46 "Edits13$Caller" "kept" "J" ∈ lw_g := gd (tb_1 _ (List.mem_of_getElem? (i := 209) rfl)) rfl
theorem wF_X4_87 : Cond.fieldLink RX4 87 "Edits13$Caller" "kept" "J" ∈ lw_g := gd (tb_1 _ (List.mem_of_getElem? (i := 210) rfl)) rfl
theorem wF_X0_50 : Cond.fieldLink RX0 50 "Edits13$Caller" "made" "I" ∈ lw_g := gd (tb_1 _ (List.mem_of_getElem? (i := 211) rfl)) rfl
theorem wF_X8_181 : Cond.fieldLink RX8 181 "Edits13$Caller" "made" "I" ∈ lw_g := gd (tb_1 _ (List.mem_of_getElem? (i := 212) rfl)) rfl
theorem wF_X8_10 : Cond.fieldLink RX8 10 "Edits13" "house" "LEdits13$House;" ∈ lw_g := gd (tb_2 _ (List.mem_of_getElem? (i := 0) rfl)) rfl
theorem wF_X8_21 : Cond.fieldLink RX8 21 "Edits13" "maker" "LEdits13$Maker;" ∈ lw_g := gd (tb_2 _ (List.mem_of_getElem? (i := 1) rfl)) rfl
theorem wF_X8_28 : Cond.fieldLink RX8 28 "Edits13" "meeting" "LEdits13$Meeting;" ∈ lw_g := gd (tb_2 _ (List.mem_of_getElem? (i := 2) rfl)) rfl
theorem wF_X8_34 : Cond.fieldLink RX8 34 "Edits13" "edits" "[LEdits13$Edit;" ∈ lw_g := gd (tb_2 _ (List.mem_of_getElem? (i := 3) rfl)) rfl
theorem wF_X8_126 : Cond.fieldLink RX8 126 "Edits13" "editCount" "I" ∈ lw_g := gd (tb_2 _ (List.mem_of_getElem? (i := 4) rfl)) rfl
theorem wF_X8_40 : Cond.fieldLink RX8 40 "Edits13" "callers" "[LEdits13$Caller;" ∈ lw_g := gd (tb_2 _ (List.mem_of_getElem? (i := 5) rfl)) rfl
theorem wF_X8_211 : Cond.fieldLink RX8 211 "Edits13" "callerCount" "I" ∈ lw_g := gd (tb_2 _ (List.mem_of_getElem? (i := 6) rfl)) rfl
theorem wF_X8_45 : Cond.fieldLink RX8 45 "Edits13" "again" "LEdits13$Caller;" ∈ lw_g := gd (tb_2 _ (List.mem_of_getElem? (i := 7) rfl)) rfl
theorem wF_X8_154 : Cond.fieldLink RX8 154 "Edits13" "asked" "J" ∈ lw_g := gd (tb_2 _ (List.mem_of_getElem? (i := 8) rfl)) rfl
theorem wM_L_13 : Cond.methodLink RL 13 yX8_type ∈ lw_g := gd (tb_2 _ (List.mem_of_getElem? (i := 28) rfl)) rfl
theorem wI_X8_type : Cond.instanceMethod yX8_type ∈ lw_g := gd (tb_2 _ (List.mem_of_getElem? (i := 29) rfl)) rfl
theorem wV_X8_type : Cond.selects RX8 yX8_type yX8_type ∈ lw_g := gd (tb_2 _ (List.mem_of_getElem? (i := 30) rfl)) rfl
theorem wK_X8_type : Cond.code yX8_type cX8_type 4 (some .int) ∈ lw_g := gd (tb_2 _ (List.mem_of_getElem? (i := 31) rfl)) rfl
theorem wM_X8_53 : Cond.methodLink RX8 53 yX7_mayCome ∈ lw_g := gd (tb_2 _ (List.mem_of_getElem? (i := 32) rfl)) rfl
theorem wI_X7_mayCome : Cond.instanceMethod yX7_mayCome ∈ lw_g := gd (tb_2 _ (List.mem_of_getElem? (i := 33) rfl)) rfl
theorem wV_X7_mayCome : Cond.selects RX7 yX7_mayCome yX7_mayCome ∈ lw_g := gd (tb_2 _ (List.mem_of_getElem? (i := 34) rfl)) rfl
theorem wK_X7_mayCome : Cond.code yX7_mayCome cX7_mayCome 4 (some .boolean) ∈ lw_g := gd (tb_2 _ (List.mem_of_getElem? (i := 35) rfl)) rfl
theorem wM_X7_49 : Cond.methodLink RX7 49 yX7_areMarks ∈ lw_g := gd (tb_2 _ (List.mem_of_getElem? (i := 36) rfl)) rfl
theorem wS_X7_areMarks : Cond.static yX7_areMarks ∈ lw_g := gd (tb_2 _ (List.mem_of_getElem? (i := 37) rfl)) rfl
theorem wK_X7_areMarks : Cond.code yX7_areMarks cX7_areMarks 1 (some .boolean) ∈ lw_g := gd (tb_2 _ (List.mem_of_getElem? (i := 38) rfl)) rfl
theorem wM_X7_52 : Cond.methodLink RX7 52 yX7_isClass ∈ lw_g := gd (tb_2 _ (List.mem_of_getElem? (i := 39) rfl)) rfl
theorem wI_X7_isClass : Cond.instanceMethod yX7_isClass ∈ lw_g := gd (tb_2 _ (List.mem_of_getElem? (i := 40) rfl)) rfl
theorem wV_X7_isClass : Cond.selects RX7 yX7_isClass yX7_isClass ∈ lw_g := gd (tb_2 _ (List.mem_of_getElem? (i := 41) rfl)) rfl
theorem wK_X7_isClass : Cond.code yX7_isClass cX7_isClass 2 (some .boolean) ∈ lw_g := gd (tb_2 _ (List.mem_of_getElem? (i := 42) rfl)) rfl
theorem wT_X1 : Cond.instantiable RX1 7 ∈ lw_g := gd (tb_2 _ (List.mem_of_getElem? (i := 43) rfl)) rfl
theorem wM_X8_63 : Cond.methodLink RX8 63 yX1_init ∈ lw_g := gd (tb_2 _ (List.mem_of_getElem? (i := 44) rfl)) rfl
theorem wI_X1_init : Cond.instanceMethod yX1_init ∈ lw_g := gd (tb_2 _ (List.mem_of_getElem? (i := 45) rfl)) rfl
theorem wK_X1_init : Cond.code yX1_init cX1_init 9 none ∈ lw_g := gd (tb_2 _ (List.mem_of_getElem? (i := 46) rfl)) rfl
theorem wM_X1_1 : Cond.methodLink RX1 1 objectInit ∈ lw_g := gd (tb_2 _ (List.mem_of_getElem? (i := 47) rfl)) rfl
theorem wF_X1_7 : Cond.fieldLink RX1 7 "Edits13$Edit" "sort" "I" ∈ lw_g := gd (tb_2 _ (List.mem_of_getElem? (i := 48) rfl)) rfl
theorem wF_X2_29 : Cond.fieldLink RX2 29 "Edits13$Edit" "sort" "I" ∈ lw_g := gd (tb_2 _ (List.mem_of_getElem? (i := 49) rfl)) rfl
theorem wF_X1_13 : Cond.fieldLink RX1 13 "Edits13$Edit" "a" "I" ∈ lw_g := gd (tb_2 _ (List.mem_of_getElem? (i := 50) rfl)) rfl
theorem wF_X2_35 : Cond.fieldLink RX2 35 "Edits13$Edit" "a" "I" ∈ lw_g := gd (tb_2 _ (List.mem_of_getElem? (i := 51) rfl)) rfl
theorem wF_X6_55 : Cond.fieldLink RX6 55 "Edits13$Edit" "a" "I" ∈ lw_g := gd (tb_2 _ (List.mem_of_getElem? (i := 52) rfl)) rfl
theorem wF_X1_16 : Cond.fieldLink RX1 16 "Edits13$Edit" "b" "I" ∈ lw_g := gd (tb_2 _ (List.mem_of_getElem? (i := 53) rfl)) rfl
theorem wF_X2_38 : Cond.fieldLink RX2 38 "Edits13$Edit" "b" "I" ∈ lw_g := gd (tb_2 _ (List.mem_of_getElem? (i := 54) rfl)) rfl
theorem wF_X6_60 : Cond.fieldLink RX6 60 "Edits13$Edit" "b" "I" ∈ lw_g := gd (tb_2 _ (List.mem_of_getElem? (i := 55) rfl)) rfl
theorem wF_X1_19 : Cond.fieldLink RX1 19 "Edits13$Edit" "c" "I" ∈ lw_g := gd (tb_2 _ (List.mem_of_getElem? (i := 56) rfl)) rfl
theorem wF_X2_41 : Cond.fieldLink RX2 41 "Edits13$Edit" "c" "I" ∈ lw_g := gd (tb_2 _ (List.mem_of_getElem? (i := 57) rfl)) rfl
theorem wF_X6_63 : Cond.fieldLink RX6 63 "Edits13$Edit" "c" "I" ∈ lw_g := gd (tb_2 _ (List.mem_of_getElem? (i := 58) rfl)) rfl
theorem wF_X1_22 : Cond.fieldLink RX1 22 "Edits13$Edit" "d" "I" ∈ lw_g := gd (tb_2 _ (List.mem_of_getElem? (i := 59) rfl)) rfl
theorem wF_X6_66 : Cond.fieldLink RX6 66 "Edits13$Edit" "d" "I" ∈ lw_g := gd (tb_2 _ (List.mem_of_getElem? (i := 60) rfl)) rfl
theorem wF_X1_25 : Cond.fieldLink RX1 25 "Edits13$Edit" "e" "I" ∈ lw_g := gd (tb_2 _ (List.mem_of_getElem? (i := 61) rfl)) rfl
theorem wF_X6_69 : Cond.fieldLink RX6 69 "Edits13$Edit" "e" "I" ∈ lw_g := gd (tb_2 _ (List.mem_of_getElem? (i := 62) rfl)) rfl
theorem wF_X1_28 : Cond.fieldLink RX1 28 "Edits13$Edit" "v" "J" ∈ lw_g := gd (tb_2 _ (List.mem_of_getElem? (i := 63) rfl)) rfl
theorem wF_X2_69 : Cond.fieldLink RX2 69 "Edits13$Edit" "v" "J" ∈ lw_g := gd (tb_2 _ (List.mem_of_getElem? (i := 64) rfl)) rfl
theorem wF_X6_72 : Cond.fieldLink RX6 72 "Edits13$Edit" "v" "J" ∈ lw_g := gd (tb_2 _ (List.mem_of_getElem? (i := 65) rfl)) rfl
theorem wM_X8_66 : Cond.methodLink RX8 66 yX8_carryOut ∈ lw_g := gd (tb_2 _ (List.mem_of_getElem? (i := 81) rfl)) rfl
theorem wI_X8_carryOut : Cond.instanceMethod yX8_carryOut ∈ lw_g := gd (tb_2 _ (List.mem_of_getElem? (i := 83) rfl)) rfl
theorem wK_X8_carryOut : Cond.code yX8_carryOut cX8_carryOut 2 (some .int) ∈ lw_g := gd (tb_2 _ (List.mem_of_getElem? (i := 84) rfl)) rfl
theorem wM_X8_223 : Cond.methodLink RX8 223 yX2_carryOut ∈ lw_g := gd (tb_2 _ (List.mem_of_getElem? (i := 85) rfl)) rfl
theorem wI_X2_carryOut : Cond.instanceMethod yX2_carryOut ∈ lw_g := gd (tb_2 _ (List.mem_of_getElem? (i := 86) rfl)) rfl
theorem wV_X2_carryOut : Cond.selects RX2 yX2_carryOut yX2_carryOut ∈ lw_g := gd (tb_2 _ (List.mem_of_getElem? (i := 87) rfl)) rfl
theorem wK_X2_carryOut : Cond.code yX2_carryOut cX2_carryOut 2 (some .int) ∈ lw_g := gd (tb_2 _ (List.mem_of_getElem? (i := 88) rfl)) rfl
theorem wM_X2_44 : Cond.methodLink RX2 44 yX7_add ∈ lw_g := gd (tb_2 _ (List.mem_of_getElem? (i := 89) rfl)) rfl
theorem wI_X7_add : Cond.instanceMethod yX7_add ∈ lw_g := gd (tb_2 _ (List.mem_of_getElem? (i := 90) rfl)) rfl
theorem wV_X7_add : Cond.selects RX7 yX7_add yX7_add ∈ lw_g := gd (tb_2 _ (List.mem_of_getElem? (i := 91) rfl)) rfl
theorem wK_X7_add : Cond.code yX7_add cX7_add 5 (some .int) ∈ lw_g := gd (tb_2 _ (List.mem_of_getElem? (i := 92) rfl)) rfl
theorem wM_X7_64 : Cond.methodLink RX7 64 yX7_findOver ∈ lw_g := gd (tb_2 _ (List.mem_of_getElem? (i := 93) rfl)) rfl
theorem wI_X7_findOver : Cond.instanceMethod yX7_findOver ∈ lw_g := gd (tb_2 _ (List.mem_of_getElem? (i := 95) rfl)) rfl
theorem wK_X7_findOver : Cond.code yX7_findOver cX7_findOver 5 none ∈ lw_g := gd (tb_2 _ (List.mem_of_getElem? (i := 96) rfl)) rfl
theorem wM_X7_67 : Cond.methodLink RX7 67 yX7_overDirectly ∈ lw_g := gd (tb_2 _ (List.mem_of_getElem? (i := 97) rfl)) rfl
theorem wI_X7_overDirectly : Cond.instanceMethod yX7_overDirectly ∈ lw_g := gd (tb_2 _ (List.mem_of_getElem? (i := 99) rfl)) rfl
theorem wK_X7_overDirectly : Cond.code yX7_overDirectly cX7_overDirectly 6 (some .int) ∈ lw_g := gd (tb_2 _ (List.mem_of_getElem? (i := 100) rfl)) rfl
theorem wM_X7_71 : Cond.methodLink RX7 71 yX7_whatIsAbove ∈ lw_g := gd (tb_2 _ (List.mem_of_getElem? (i := 101) rfl)) rfl
theorem wI_X7_whatIsAbove : Cond.instanceMethod yX7_whatIsAbove ∈ lw_g := gd (tb_2 _ (List.mem_of_getElem? (i := 102) rfl)) rfl
theorem wV_X7_whatIsAbove : Cond.selects RX7 yX7_whatIsAbove yX7_whatIsAbove ∈ lw_g := gd (tb_2 _ (List.mem_of_getElem? (i := 103) rfl)) rfl
theorem wK_X7_whatIsAbove : Cond.code yX7_whatIsAbove cX7_whatIsAbove 2 (some .int) ∈ lw_g := gd (tb_2 _ (List.mem_of_getElem? (i := 104) rfl)) rfl
theorem wM_X7_45 : Cond.methodLink RX7 45 yX7_isType ∈ lw_g := gd (tb_2 _ (List.mem_of_getElem? (i := 105) rfl)) rfl
theorem wI_X7_isType : Cond.instanceMethod yX7_isType ∈ lw_g := gd (tb_2 _ (List.mem_of_getElem? (i := 106) rfl)) rfl
theorem wV_X7_isType : Cond.selects RX7 yX7_isType yX7_isType ∈ lw_g := gd (tb_2 _ (List.mem_of_getElem? (i := 107) rfl)) rfl
theorem wK_X7_isType : Cond.code yX7_isType cX7_isType 2 (some .boolean) ∈ lw_g := gd (tb_2 _ (List.mem_of_getElem? (i := 108) rfl)) rfl
theorem wM_X7_60 : Cond.methodLink RX7 60 yX7_faceAt ∈ lw_g := gd (tb_2 _ (List.mem_of_getElem? (i := 109) rfl)) rfl
theorem wI_X7_faceAt : Cond.instanceMethod yX7_faceAt ∈ lw_g := gd (tb_2 _ (List.mem_of_getElem? (i := 110) rfl)) rfl
theorem wV_X7_faceAt : Cond.selects RX7 yX7_faceAt yX7_faceAt ∈ lw_g := gd (tb_2 _ (List.mem_of_getElem? (i := 111) rfl)) rfl
theorem wK_X7_faceAt : Cond.code yX7_faceAt cX7_faceAt 3 (some .int) ∈ lw_g := gd (tb_2 _ (List.mem_of_getElem? (i := 112) rfl)) rfl
theorem wM_X2_48 : Cond.methodLink RX2 48 yX7_putAbove ∈ lw_g := gd (tb_2 _ (List.mem_of_getElem? (i := 113) rfl)) rfl
theorem wI_X7_putAbove : Cond.instanceMethod yX7_putAbove ∈ lw_g := gd (tb_2 _ (List.mem_of_getElem? (i := 114) rfl)) rfl
theorem wV_X7_putAbove : Cond.selects RX7 yX7_putAbove yX7_putAbove ∈ lw_g := gd (tb_2 _ (List.mem_of_getElem? (i := 115) rfl)) rfl
theorem wK_X7_putAbove : Cond.code yX7_putAbove cX7_putAbove 3 (some .int) ∈ lw_g := gd (tb_2 _ (List.mem_of_getElem? (i := 116) rfl)) rfl
theorem wM_X2_52 : Cond.methodLink RX2 52 yX7_addFace ∈ lw_g := gd (tb_2 _ (List.mem_of_getElem? (i := 117) rfl)) rfl
theorem wI_X7_addFace : Cond.instanceMethod yX7_addFace ∈ lw_g := gd (tb_2 _ (List.mem_of_getElem? (i := 118) rfl)) rfl
theorem wV_X7_addFace : Cond.selects RX7 yX7_addFace yX7_addFace ∈ lw_g := gd (tb_2 _ (List.mem_of_getElem? (i := 119) rfl)) rfl
theorem wK_X7_addFace : Cond.code yX7_addFace cX7_addFace 3 (some .int) ∈ lw_g := gd (tb_2 _ (List.mem_of_getElem? (i := 120) rfl)) rfl
theorem wM_X2_55 : Cond.methodLink RX2 55 yX7_removeFace ∈ lw_g := gd (tb_2 _ (List.mem_of_getElem? (i := 121) rfl)) rfl
theorem wI_X7_removeFace : Cond.instanceMethod yX7_removeFace ∈ lw_g := gd (tb_2 _ (List.mem_of_getElem? (i := 122) rfl)) rfl
theorem wV_X7_removeFace : Cond.selects RX7 yX7_removeFace yX7_removeFace ∈ lw_g := gd (tb_2 _ (List.mem_of_getElem? (i := 123) rfl)) rfl
theorem wK_X7_removeFace : Cond.code yX7_removeFace cX7_removeFace 4 (some .int) ∈ lw_g := gd (tb_2 _ (List.mem_of_getElem? (i := 124) rfl)) rfl
theorem wM_X2_58 : Cond.methodLink RX2 58 yX7_changeMarks ∈ lw_g := gd (tb_2 _ (List.mem_of_getElem? (i := 125) rfl)) rfl
theorem wI_X7_changeMarks : Cond.instanceMethod yX7_changeMarks ∈ lw_g := gd (tb_2 _ (List.mem_of_getElem? (i := 126) rfl)) rfl
theorem wV_X7_changeMarks : Cond.selects RX7 yX7_changeMarks yX7_changeMarks ∈ lw_g := gd (tb_2 _ (List.mem_of_getElem? (i := 127) rfl)) rfl
theorem wK_X7_changeMarks : Cond.code yX7_changeMarks cX7_changeMarks 4 (some .int) ∈ lw_g := gd (tb_2 _ (List.mem_of_getElem? (i := 128) rfl)) rfl
theorem wM_X2_61 : Cond.methodLink RX2 61 yX6_add ∈ lw_g := gd (tb_2 _ (List.mem_of_getElem? (i := 129) rfl)) rfl
theorem wI_X6_add : Cond.instanceMethod yX6_add ∈ lw_g := gd (tb_2 _ (List.mem_of_getElem? (i := 130) rfl)) rfl
theorem wV_X6_add : Cond.selects RX6 yX6_add yX6_add ∈ lw_g := gd (tb_2 _ (List.mem_of_getElem? (i := 131) rfl)) rfl
theorem wK_X6_add : Cond.code yX6_add cX6_add 4 (some .int) ∈ lw_g := gd (tb_2 _ (List.mem_of_getElem? (i := 132) rfl)) rfl
theorem wM_X6_51 : Cond.methodLink RX6 51 yX6_leastFree ∈ lw_g := gd (tb_2 _ (List.mem_of_getElem? (i := 133) rfl)) rfl
theorem wI_X6_leastFree : Cond.instanceMethod yX6_leastFree ∈ lw_g := gd (tb_2 _ (List.mem_of_getElem? (i := 135) rfl)) rfl
theorem wK_X6_leastFree : Cond.code yX6_leastFree cX6_leastFree 2 (some .int) ∈ lw_g := gd (tb_2 _ (List.mem_of_getElem? (i := 136) rfl)) rfl
theorem wM_X6_76 : Cond.methodLink RX6 76 yX6_putValue ∈ lw_g := gd (tb_2 _ (List.mem_of_getElem? (i := 137) rfl)) rfl
theorem wI_X6_putValue : Cond.instanceMethod yX6_putValue ∈ lw_g := gd (tb_2 _ (List.mem_of_getElem? (i := 138) rfl)) rfl
theorem wV_X6_putValue : Cond.selects RX6 yX6_putValue yX6_putValue ∈ lw_g := gd (tb_2 _ (List.mem_of_getElem? (i := 139) rfl)) rfl
theorem wK_X6_putValue : Cond.code yX6_putValue cX6_putValue 4 (some .int) ∈ lw_g := gd (tb_2 _ (List.mem_of_getElem? (i := 140) rfl)) rfl
theorem wM_X6_39 : Cond.methodLink RX6 39 yX6_isMember ∈ lw_g := gd (tb_2 _ (List.mem_of_getElem? (i := 141) rfl)) rfl
theorem wI_X6_isMember : Cond.instanceMethod yX6_isMember ∈ lw_g := gd (tb_2 _ (List.mem_of_getElem? (i := 142) rfl)) rfl
theorem wV_X6_isMember : Cond.selects RX6 yX6_isMember yX6_isMember ∈ lw_g := gd (tb_2 _ (List.mem_of_getElem? (i := 143) rfl)) rfl
theorem wK_X6_isMember : Cond.code yX6_isMember cX6_isMember 2 (some .boolean) ∈ lw_g := gd (tb_2 _ (List.mem_of_getElem? (i := 144) rfl)) rfl
theorem wM_X6_80 : Cond.methodLink RX6 80 yX3_comesOut ∈ lw_g := gd (tb_2 _ (List.mem_of_getElem? (i := 145) rfl)) rfl
theorem wS_X3_comesOut : Cond.static yX3_comesOut ∈ lw_g := gd (tb_2 _ (List.mem_of_getElem? (i := 146) rfl)) rfl
theorem wK_X3_comesOut : Cond.code yX3_comesOut cX3_comesOut 3 (some .long) ∈ lw_g := gd (tb_2 _ (List.mem_of_getElem? (i := 147) rfl)) rfl
theorem wM_X2_64 : Cond.methodLink RX2 64 yX6_remove ∈ lw_g := gd (tb_2 _ (List.mem_of_getElem? (i := 148) rfl)) rfl
theorem wI_X6_remove : Cond.instanceMethod yX6_remove ∈ lw_g := gd (tb_2 _ (List.mem_of_getElem? (i := 149) rfl)) rfl
theorem wV_X6_remove : Cond.selects RX6 yX6_remove yX6_remove ∈ lw_g := gd (tb_2 _ (List.mem_of_getElem? (i := 150) rfl)) rfl
theorem wK_X6_remove : Cond.code yX6_remove cX6_remove 2 (some .int) ∈ lw_g := gd (tb_2 _ (List.mem_of_getElem? (i := 151) rfl)) rfl
theorem wM_X2_68 : Cond.methodLink RX2 68 yX6_changeMarks ∈ lw_g := gd (tb_2 _ (List.mem_of_getElem? (i := 152) rfl)) rfl
theorem wI_X6_changeMarks : Cond.instanceMethod yX6_changeMarks ∈ lw_g := gd (tb_2 _ (List.mem_of_getElem? (i := 153) rfl)) rfl
theorem wV_X6_changeMarks : Cond.selects RX6 yX6_changeMarks yX6_changeMarks ∈ lw_g := gd (tb_2 _ (List.mem_of_getElem? (i := 154) rfl)) rfl
theorem wK_X6_changeMarks : Cond.code yX6_changeMarks cX6_changeMarks 4 (some .int) ∈ lw_g := gd (tb_2 _ (List.mem_of_getElem? (i := 155) rfl)) rfl
theorem wM_X2_73 : Cond.methodLink RX2 73 yX6_putValue ∈ lw_g := gd (tb_2 _ (List.mem_of_getElem? (i := 156) rfl)) rfl
theorem wM_X2_77 : Cond.methodLink RX2 77 yX6_changeKind ∈ lw_g := gd (tb_2 _ (List.mem_of_getElem? (i := 157) rfl)) rfl
theorem wI_X6_changeKind : Cond.instanceMethod yX6_changeKind ∈ lw_g := gd (tb_2 _ (List.mem_of_getElem? (i := 158) rfl)) rfl
theorem wV_X6_changeKind : Cond.selects RX6 yX6_changeKind yX6_changeKind ∈ lw_g := gd (tb_2 _ (List.mem_of_getElem? (i := 159) rfl)) rfl
theorem wK_X6_changeKind : Cond.code yX6_changeKind cX6_changeKind 5 (some .int) ∈ lw_g := gd (tb_2 _ (List.mem_of_getElem? (i := 160) rfl)) rfl
theorem wM_X6_86 : Cond.methodLink RX6 86 yX6_isField ∈ lw_g := gd (tb_2 _ (List.mem_of_getElem? (i := 161) rfl)) rfl
theorem wI_X6_isField : Cond.instanceMethod yX6_isField ∈ lw_g := gd (tb_2 _ (List.mem_of_getElem? (i := 162) rfl)) rfl
theorem wV_X6_isField : Cond.selects RX6 yX6_isField yX6_isField ∈ lw_g := gd (tb_2 _ (List.mem_of_getElem? (i := 163) rfl)) rfl
theorem wK_X6_isField : Cond.code yX6_isField cX6_isField 2 (some .boolean) ∈ lw_g := gd (tb_2 _ (List.mem_of_getElem? (i := 164) rfl)) rfl
theorem wM_X2_81 : Cond.methodLink RX2 81 yX6_changeOwner ∈ lw_g := gd (tb_2 _ (List.mem_of_getElem? (i := 165) rfl)) rfl
theorem wI_X6_changeOwner : Cond.instanceMethod yX6_changeOwner ∈ lw_g := gd (tb_2 _ (List.mem_of_getElem? (i := 166) rfl)) rfl
theorem wV_X6_changeOwner : Cond.selects RX6 yX6_changeOwner yX6_changeOwner ∈ lw_g := gd (tb_2 _ (List.mem_of_getElem? (i := 167) rfl)) rfl
theorem wK_X6_changeOwner : Cond.code yX6_changeOwner cX6_changeOwner 3 (some .int) ∈ lw_g := gd (tb_2 _ (List.mem_of_getElem? (i := 168) rfl)) rfl
theorem wM_L_18 : Cond.methodLink RL 18 yX8_above ∈ lw_g := gd (tb_2 _ (List.mem_of_getElem? (i := 169) rfl)) rfl
theorem wI_X8_above : Cond.instanceMethod yX8_above ∈ lw_g := gd (tb_2 _ (List.mem_of_getElem? (i := 170) rfl)) rfl
theorem wV_X8_above : Cond.selects RX8 yX8_above yX8_above ∈ lw_g := gd (tb_2 _ (List.mem_of_getElem? (i := 171) rfl)) rfl
theorem wK_X8_above : Cond.code yX8_above cX8_above 3 (some .int) ∈ lw_g := gd (tb_2 _ (List.mem_of_getElem? (i := 172) rfl)) rfl
theorem wM_X8_70 : Cond.methodLink RX8 70 yX7_isClass ∈ lw_g := gd (tb_2 _ (List.mem_of_getElem? (i := 173) rfl)) rfl
theorem wM_X8_74 : Cond.methodLink RX8 74 yX7_isBelow ∈ lw_g := gd (tb_2 _ (List.mem_of_getElem? (i := 174) rfl)) rfl
theorem wI_X7_isBelow : Cond.instanceMethod yX7_isBelow ∈ lw_g := gd (tb_2 _ (List.mem_of_getElem? (i := 175) rfl)) rfl
theorem wV_X7_isBelow : Cond.selects RX7 yX7_isBelow yX7_isBelow ∈ lw_g := gd (tb_2 _ (List.mem_of_getElem? (i := 176) rfl)) rfl
theorem wK_X7_isBelow : Cond.code yX7_isBelow cX7_isBelow 3 (some .boolean) ∈ lw_g := gd (tb_2 _ (List.mem_of_getElem? (i := 177) rfl)) rfl
theorem wM_L_23 : Cond.methodLink RL 23 yX8_face ∈ lw_g := gd (tb_2 _ (List.mem_of_getElem? (i := 178) rfl)) rfl
theorem wI_X8_face : Cond.instanceMethod yX8_face ∈ lw_g := gd (tb_2 _ (List.mem_of_getElem? (i := 179) rfl)) rfl
theorem wV_X8_face : Cond.selects RX8 yX8_face yX8_face ∈ lw_g := gd (tb_2 _ (List.mem_of_getElem? (i := 180) rfl)) rfl
theorem wK_X8_face : Cond.code yX8_face cX8_face 3 (some .int) ∈ lw_g := gd (tb_2 _ (List.mem_of_getElem? (i := 181) rfl)) rfl
theorem wM_X8_78 : Cond.methodLink RX8 78 yX7_mayHaveFace ∈ lw_g := gd (tb_2 _ (List.mem_of_getElem? (i := 182) rfl)) rfl
theorem wI_X7_mayHaveFace : Cond.instanceMethod yX7_mayHaveFace ∈ lw_g := gd (tb_2 _ (List.mem_of_getElem? (i := 183) rfl)) rfl
theorem wV_X7_mayHaveFace : Cond.selects RX7 yX7_mayHaveFace yX7_mayHaveFace ∈ lw_g := gd (tb_2 _ (List.mem_of_getElem? (i := 184) rfl)) rfl
theorem wK_X7_mayHaveFace : Cond.code yX7_mayHaveFace cX7_mayHaveFace 3 (some .boolean) ∈ lw_g := gd (tb_2 _ (List.mem_of_getElem? (i := 185) rfl)) rfl
theorem wM_X7_55 : Cond.methodLink RX7 55 yX7_isFace ∈ lw_g := gd (tb_2 _ (List.mem_of_getElem? (i := 186) rfl)) rfl
theorem wI_X7_isFace : Cond.instanceMethod yX7_isFace ∈ lw_g := gd (tb_2 _ (List.mem_of_getElem? (i := 187) rfl)) rfl
theorem wV_X7_isFace : Cond.selects RX7 yX7_isFace yX7_isFace ∈ lw_g := gd (tb_2 _ (List.mem_of_getElem? (i := 188) rfl)) rfl
theorem wK_X7_isFace : Cond.code yX7_isFace cX7_isFace 2 (some .boolean) ∈ lw_g := gd (tb_2 _ (List.mem_of_getElem? (i := 189) rfl)) rfl
theorem wM_X7_57 : Cond.methodLink RX7 57 yX7_hasFace ∈ lw_g := gd (tb_2 _ (List.mem_of_getElem? (i := 190) rfl)) rfl
theorem wI_X7_hasFace : Cond.instanceMethod yX7_hasFace ∈ lw_g := gd (tb_2 _ (List.mem_of_getElem? (i := 192) rfl)) rfl
theorem wK_X7_hasFace : Cond.code yX7_hasFace cX7_hasFace 4 (some .boolean) ∈ lw_g := gd (tb_2 _ (List.mem_of_getElem? (i := 193) rfl)) rfl
theorem wM_L_27 : Cond.methodLink RL 27 yX8_unface ∈ lw_g := gd (tb_2 _ (List.mem_of_getElem? (i := 194) rfl)) rfl
theorem wI_X8_unface : Cond.instanceMethod yX8_unface ∈ lw_g := gd (tb_2 _ (List.mem_of_getElem? (i := 195) rfl)) rfl
theorem wV_X8_unface : Cond.selects RX8 yX8_unface yX8_unface ∈ lw_g := gd (tb_2 _ (List.mem_of_getElem? (i := 196) rfl)) rfl
theorem wK_X8_unface : Cond.code yX8_unface cX8_unface 3 (some .int) ∈ lw_g := gd (tb_2 _ (List.mem_of_getElem? (i := 197) rfl)) rfl
theorem wM_X8_81 : Cond.methodLink RX8 81 yX7_faceAt ∈ lw_g := gd (tb_2 _ (List.mem_of_getElem? (i := 198) rfl)) rfl
theorem wM_L_31 : Cond.methodLink RL 31 yX8_marks ∈ lw_g := gd (tb_2 _ (List.mem_of_getElem? (i := 199) rfl)) rfl
theorem wI_X8_marks : Cond.instanceMethod yX8_marks ∈ lw_g := gd (tb_2 _ (List.mem_of_getElem? (i := 200) rfl)) rfl
theorem wV_X8_marks : Cond.selects RX8 yX8_marks yX8_marks ∈ lw_g := gd (tb_2 _ (List.mem_of_getElem? (i := 201) rfl)) rfl
theorem wK_X8_marks : Cond.code yX8_marks cX8_marks 3 (some .int) ∈ lw_g := gd (tb_2 _ (List.mem_of_getElem? (i := 202) rfl)) rfl
theorem wM_X8_85 : Cond.methodLink RX8 85 yX7_isType ∈ lw_g := gd (tb_2 _ (List.mem_of_getElem? (i := 203) rfl)) rfl
theorem wM_X8_88 : Cond.methodLink RX8 88 yX7_areMarks ∈ lw_g := gd (tb_2 _ (List.mem_of_getElem? (i := 204) rfl)) rfl
theorem wM_L_37 : Cond.methodLink RL 37 yX8_field ∈ lw_g := gd (tb_2 _ (List.mem_of_getElem? (i := 205) rfl)) rfl
theorem wI_X8_field : Cond.instanceMethod yX8_field ∈ lw_g := gd (tb_2 _ (List.mem_of_getElem? (i := 206) rfl)) rfl
theorem wV_X8_field : Cond.selects RX8 yX8_field yX8_field ∈ lw_g := gd (tb_2 _ (List.mem_of_getElem? (i := 207) rfl)) rfl
theorem wK_X8_field : Cond.code yX8_field cX8_field 7 (some .int) ∈ lw_g := gd (tb_2 _ (List.mem_of_getElem? (i := 208) rfl)) rfl
theorem wM_X8_91 : Cond.methodLink RX8 91 yX2_fieldMayCome ∈ lw_g := gd (tb_2 _ (List.mem_of_getElem? (i := 209) rfl)) rfl
theorem wI_X2_fieldMayCome : Cond.instanceMethod yX2_fieldMayCome ∈ lw_g := gd (tb_2 _ (List.mem_of_getElem? (i := 210) rfl)) rfl
theorem wV_X2_fieldMayCome : Cond.selects RX2 yX2_fieldMayCome yX2_fieldMayCome ∈ lw_g := gd (tb_2 _ (List.mem_of_getElem? (i := 211) rfl)) rfl
theorem wK_X2_fieldMayCome : Cond.code yX2_fieldMayCome cX2_fieldMayCome 5 (some .boolean) ∈ lw_g := gd (tb_2 _ (List.mem_of_getElem? (i := 212) rfl)) rfl
theorem wM_X2_84 : Cond.methodLink RX2 84 yX7_isType ∈ lw_g := gd (tb_2 _ (List.mem_of_getElem? (i := 213) rfl)) rfl
theorem wM_X2_88 : Cond.methodLink RX2 88 yX6_isName ∈ lw_g := gd (tb_2 _ (List.mem_of_getElem? (i := 214) rfl)) rfl
theorem wS_X6_isName : Cond.static yX6_isName ∈ lw_g := gd (tb_2 _ (List.mem_of_getElem? (i := 215) rfl)) rfl
theorem wK_X6_isName : Cond.code yX6_isName cX6_isName 1 (some .boolean) ∈ lw_g := gd (tb_2 _ (List.mem_of_getElem? (i := 216) rfl)) rfl
theorem wM_X2_91 : Cond.methodLink RX2 91 yX3_isKind ∈ lw_g := gd (tb_2 _ (List.mem_of_getElem? (i := 217) rfl)) rfl
theorem wS_X3_isKind : Cond.static yX3_isKind ∈ lw_g := gd (tb_2 _ (List.mem_of_getElem? (i := 218) rfl)) rfl
theorem wK_X3_isKind : Cond.code yX3_isKind cX3_isKind 1 (some .boolean) ∈ lw_g := gd (tb_2 _ (List.mem_of_getElem? (i := 219) rfl)) rfl
theorem wF_X3_7 : Cond.fieldLink RX3 7 "Edits13$Kinds" "WIDER" "[I" ∈ lw_g := gd (tb_2 _ (List.mem_of_getElem? (i := 220) rfl)) rfl
theorem wM_X2_96 : Cond.methodLink RX2 96 yX2_areFieldMarks ∈ lw_g := gd (tb_2 _ (List.mem_of_getElem? (i := 222) rfl)) rfl
theorem wI_X2_areFieldMarks : Cond.instanceMethod yX2_areFieldMarks ∈ lw_g := gd (tb_2 _ (List.mem_of_getElem? (i := 224) rfl)) rfl
theorem wK_X2_areFieldMarks : Cond.code yX2_areFieldMarks cX2_areFieldMarks 4 (some .boolean) ∈ lw_g := gd (tb_2 _ (List.mem_of_getElem? (i := 225) rfl)) rfl
theorem wM_X2_129 : Cond.methodLink RX2 129 yX7_isClass ∈ lw_g := gd (tb_2 _ (List.mem_of_getElem? (i := 226) rfl)) rfl
theorem wM_X2_100 : Cond.methodLink RX2 100 yX6_fieldOf ∈ lw_g := gd (tb_2 _ (List.mem_of_getElem? (i := 227) rfl)) rfl
theorem wI_X6_fieldOf : Cond.instanceMethod yX6_fieldOf ∈ lw_g := gd (tb_2 _ (List.mem_of_getElem? (i := 228) rfl)) rfl
theorem wV_X6_fieldOf : Cond.selects RX6 yX6_fieldOf yX6_fieldOf ∈ lw_g := gd (tb_2 _ (List.mem_of_getElem? (i := 229) rfl)) rfl
theorem wK_X6_fieldOf : Cond.code yX6_fieldOf cX6_fieldOf 4 (some .int) ∈ lw_g := gd (tb_2 _ (List.mem_of_getElem? (i := 230) rfl)) rfl
theorem wM_X8_99 : Cond.methodLink RX8 99 yX6_isFull ∈ lw_g := gd (tb_2 _ (List.mem_of_getElem? (i := 231) rfl)) rfl
theorem wI_X6_isFull : Cond.instanceMethod yX6_isFull ∈ lw_g := gd (tb_2 _ (List.mem_of_getElem? (i := 232) rfl)) rfl
theorem wV_X6_isFull : Cond.selects RX6 yX6_isFull yX6_isFull ∈ lw_g := gd (tb_2 _ (List.mem_of_getElem? (i := 233) rfl)) rfl
theorem wK_X6_isFull : Cond.code yX6_isFull cX6_isFull 1 (some .boolean) ∈ lw_g := gd (tb_2 _ (List.mem_of_getElem? (i := 234) rfl)) rfl
theorem wM_L_42 : Cond.methodLink RL 42 yX8_method ∈ lw_g := gd (tb_2 _ (List.mem_of_getElem? (i := 235) rfl)) rfl
theorem wI_X8_method : Cond.instanceMethod yX8_method ∈ lw_g := gd (tb_2 _ (List.mem_of_getElem? (i := 236) rfl)) rfl
theorem wV_X8_method : Cond.selects RX8 yX8_method yX8_method ∈ lw_g := gd (tb_2 _ (List.mem_of_getElem? (i := 237) rfl)) rfl
theorem wK_X8_method : Cond.code yX8_method cX8_method 7 (some .int) ∈ lw_g := gd (tb_2 _ (List.mem_of_getElem? (i := 238) rfl)) rfl
theorem wM_X8_105 : Cond.methodLink RX8 105 yX2_methodMayCome ∈ lw_g := gd (tb_2 _ (List.mem_of_getElem? (i := 239) rfl)) rfl
theorem wI_X2_methodMayCome : Cond.instanceMethod yX2_methodMayCome ∈ lw_g := gd (tb_3 _ (List.mem_of_getElem? (i := 0) rfl)) rfl
theorem wV_X2_methodMayCome : Cond.selects RX2 yX2_methodMayCome yX2_methodMayCome ∈ lw_g := gd (tb_3 _ (List.mem_of_getElem? (i := 1) rfl)) rfl
theorem wK_X2_methodMayCome : Cond.code yX2_methodMayCome cX2_methodMayCome 6 (some .boolean) ∈ lw_g := gd (tb_3 _ (List.mem_of_getElem? (i := 2) rfl)) rfl
theorem wM_X2_103 : Cond.methodLink RX2 103 yX7_areParameters ∈ lw_g := gd (tb_3 _ (List.mem_of_getElem? (i := 3) rfl)) rfl
theorem wI_X7_areParameters : Cond.instanceMethod yX7_areParameters ∈ lw_g := gd (tb_3 _ (List.mem_of_getElem? (i := 4) rfl)) rfl
theorem wV_X7_areParameters : Cond.selects RX7 yX7_areParameters yX7_areParameters ∈ lw_g := gd (tb_3 _ (List.mem_of_getElem? (i := 5) rfl)) rfl
theorem wK_X7_areParameters : Cond.code yX7_areParameters cX7_areParameters 3 (some .boolean) ∈ lw_g := gd (tb_3 _ (List.mem_of_getElem? (i := 6) rfl)) rfl
theorem wM_X2_106 : Cond.methodLink RX2 106 yX2_areMethodMarks ∈ lw_g := gd (tb_3 _ (List.mem_of_getElem? (i := 7) rfl)) rfl
theorem wS_X2_areMethodMarks : Cond.static yX2_areMethodMarks ∈ lw_g := gd (tb_3 _ (List.mem_of_getElem? (i := 8) rfl)) rfl
theorem wK_X2_areMethodMarks : Cond.code yX2_areMethodMarks cX2_areMethodMarks 1 (some .boolean) ∈ lw_g := gd (tb_3 _ (List.mem_of_getElem? (i := 9) rfl)) rfl
theorem wM_X2_109 : Cond.methodLink RX2 109 yX6_methodOf ∈ lw_g := gd (tb_3 _ (List.mem_of_getElem? (i := 10) rfl)) rfl
theorem wI_X6_methodOf : Cond.instanceMethod yX6_methodOf ∈ lw_g := gd (tb_3 _ (List.mem_of_getElem? (i := 11) rfl)) rfl
theorem wV_X6_methodOf : Cond.selects RX6 yX6_methodOf yX6_methodOf ∈ lw_g := gd (tb_3 _ (List.mem_of_getElem? (i := 12) rfl)) rfl
theorem wK_X6_methodOf : Cond.code yX6_methodOf cX6_methodOf 6 (some .int) ∈ lw_g := gd (tb_3 _ (List.mem_of_getElem? (i := 13) rfl)) rfl
theorem wM_L_47 : Cond.methodLink RL 47 yX8_drop ∈ lw_g := gd (tb_3 _ (List.mem_of_getElem? (i := 14) rfl)) rfl
theorem wI_X8_drop : Cond.instanceMethod yX8_drop ∈ lw_g := gd (tb_3 _ (List.mem_of_getElem? (i := 15) rfl)) rfl
theorem wV_X8_drop : Cond.selects RX8 yX8_drop yX8_drop ∈ lw_g := gd (tb_3 _ (List.mem_of_getElem? (i := 16) rfl)) rfl
theorem wK_X8_drop : Cond.code yX8_drop cX8_drop 2 (some .int) ∈ lw_g := gd (tb_3 _ (List.mem_of_getElem? (i := 17) rfl)) rfl
theorem wM_X8_109 : Cond.methodLink RX8 109 yX6_isMember ∈ lw_g := gd (tb_3 _ (List.mem_of_getElem? (i := 18) rfl)) rfl
theorem wM_L_52 : Cond.methodLink RL 52 yX8_mark ∈ lw_g := gd (tb_3 _ (List.mem_of_getElem? (i := 19) rfl)) rfl
theorem wI_X8_mark : Cond.instanceMethod yX8_mark ∈ lw_g := gd (tb_3 _ (List.mem_of_getElem? (i := 20) rfl)) rfl
theorem wV_X8_mark : Cond.selects RX8 yX8_mark yX8_mark ∈ lw_g := gd (tb_3 _ (List.mem_of_getElem? (i := 21) rfl)) rfl
theorem wK_X8_mark : Cond.code yX8_mark cX8_mark 3 (some .int) ∈ lw_g := gd (tb_3 _ (List.mem_of_getElem? (i := 22) rfl)) rfl
theorem wM_X8_112 : Cond.methodLink RX8 112 yX2_mayBeMarked ∈ lw_g := gd (tb_3 _ (List.mem_of_getElem? (i := 23) rfl)) rfl
theorem wI_X2_mayBeMarked : Cond.instanceMethod yX2_mayBeMarked ∈ lw_g := gd (tb_3 _ (List.mem_of_getElem? (i := 24) rfl)) rfl
theorem wV_X2_mayBeMarked : Cond.selects RX2 yX2_mayBeMarked yX2_mayBeMarked ∈ lw_g := gd (tb_3 _ (List.mem_of_getElem? (i := 25) rfl)) rfl
theorem wK_X2_mayBeMarked : Cond.code yX2_mayBeMarked cX2_mayBeMarked 3 (some .boolean) ∈ lw_g := gd (tb_3 _ (List.mem_of_getElem? (i := 26) rfl)) rfl
theorem wM_X2_113 : Cond.methodLink RX2 113 yX6_isMember ∈ lw_g := gd (tb_3 _ (List.mem_of_getElem? (i := 27) rfl)) rfl
theorem wM_X2_116 : Cond.methodLink RX2 116 yX6_isMethod ∈ lw_g := gd (tb_3 _ (List.mem_of_getElem? (i := 28) rfl)) rfl
theorem wI_X6_isMethod : Cond.instanceMethod yX6_isMethod ∈ lw_g := gd (tb_3 _ (List.mem_of_getElem? (i := 29) rfl)) rfl
theorem wV_X6_isMethod : Cond.selects RX6 yX6_isMethod yX6_isMethod ∈ lw_g := gd (tb_3 _ (List.mem_of_getElem? (i := 30) rfl)) rfl
theorem wK_X6_isMethod : Cond.code yX6_isMethod cX6_isMethod 2 (some .boolean) ∈ lw_g := gd (tb_3 _ (List.mem_of_getElem? (i := 31) rfl)) rfl
theorem wM_L_56 : Cond.methodLink RL 56 yX8_set ∈ lw_g := gd (tb_3 _ (List.mem_of_getElem? (i := 32) rfl)) rfl
theorem wI_X8_set : Cond.instanceMethod yX8_set ∈ lw_g := gd (tb_3 _ (List.mem_of_getElem? (i := 33) rfl)) rfl
theorem wV_X8_set : Cond.selects RX8 yX8_set yX8_set ∈ lw_g := gd (tb_3 _ (List.mem_of_getElem? (i := 34) rfl)) rfl
theorem wK_X8_set : Cond.code yX8_set cX8_set 4 (some .int) ∈ lw_g := gd (tb_3 _ (List.mem_of_getElem? (i := 35) rfl)) rfl
theorem wM_L_61 : Cond.methodLink RL 61 yX8_retype ∈ lw_g := gd (tb_3 _ (List.mem_of_getElem? (i := 36) rfl)) rfl
theorem wI_X8_retype : Cond.instanceMethod yX8_retype ∈ lw_g := gd (tb_3 _ (List.mem_of_getElem? (i := 37) rfl)) rfl
theorem wV_X8_retype : Cond.selects RX8 yX8_retype yX8_retype ∈ lw_g := gd (tb_3 _ (List.mem_of_getElem? (i := 38) rfl)) rfl
theorem wK_X8_retype : Cond.code yX8_retype cX8_retype 5 (some .int) ∈ lw_g := gd (tb_3 _ (List.mem_of_getElem? (i := 39) rfl)) rfl
theorem wM_X8_115 : Cond.methodLink RX8 115 yX6_isField ∈ lw_g := gd (tb_3 _ (List.mem_of_getElem? (i := 40) rfl)) rfl
theorem wM_X8_118 : Cond.methodLink RX8 118 yX3_isKind ∈ lw_g := gd (tb_3 _ (List.mem_of_getElem? (i := 41) rfl)) rfl
theorem wM_L_66 : Cond.methodLink RL 66 yX8_move ∈ lw_g := gd (tb_3 _ (List.mem_of_getElem? (i := 42) rfl)) rfl
theorem wI_X8_move : Cond.instanceMethod yX8_move ∈ lw_g := gd (tb_3 _ (List.mem_of_getElem? (i := 43) rfl)) rfl
theorem wV_X8_move : Cond.selects RX8 yX8_move yX8_move ∈ lw_g := gd (tb_3 _ (List.mem_of_getElem? (i := 44) rfl)) rfl
theorem wK_X8_move : Cond.code yX8_move cX8_move 3 (some .int) ∈ lw_g := gd (tb_3 _ (List.mem_of_getElem? (i := 45) rfl)) rfl
theorem wM_X8_123 : Cond.methodLink RX8 123 yX2_mayMove ∈ lw_g := gd (tb_3 _ (List.mem_of_getElem? (i := 46) rfl)) rfl
theorem wI_X2_mayMove : Cond.instanceMethod yX2_mayMove ∈ lw_g := gd (tb_3 _ (List.mem_of_getElem? (i := 47) rfl)) rfl
theorem wV_X2_mayMove : Cond.selects RX2 yX2_mayMove yX2_mayMove ∈ lw_g := gd (tb_3 _ (List.mem_of_getElem? (i := 48) rfl)) rfl
theorem wK_X2_mayMove : Cond.code yX2_mayMove cX2_mayMove 3 (some .boolean) ∈ lw_g := gd (tb_3 _ (List.mem_of_getElem? (i := 49) rfl)) rfl
theorem wM_X2_123 : Cond.methodLink RX2 123 yX6_likeIn ∈ lw_g := gd (tb_3 _ (List.mem_of_getElem? (i := 50) rfl)) rfl
theorem wI_X6_likeIn : Cond.instanceMethod yX6_likeIn ∈ lw_g := gd (tb_3 _ (List.mem_of_getElem? (i := 51) rfl)) rfl
theorem wV_X6_likeIn : Cond.selects RX6 yX6_likeIn yX6_likeIn ∈ lw_g := gd (tb_3 _ (List.mem_of_getElem? (i := 52) rfl)) rfl
theorem wK_X6_likeIn : Cond.code yX6_likeIn cX6_likeIn 3 (some .int) ∈ lw_g := gd (tb_3 _ (List.mem_of_getElem? (i := 53) rfl)) rfl
theorem wM_X6_43 : Cond.methodLink RX6 43 yX6_methodOf ∈ lw_g := gd (tb_3 _ (List.mem_of_getElem? (i := 54) rfl)) rfl
theorem wM_X6_47 : Cond.methodLink RX6 47 yX6_fieldOf ∈ lw_g := gd (tb_3 _ (List.mem_of_getElem? (i := 55) rfl)) rfl
theorem wM_L_70 : Cond.methodLink RL 70 yX8_undo ∈ lw_g := gd (tb_3 _ (List.mem_of_getElem? (i := 56) rfl)) rfl
theorem wI_X8_undo : Cond.instanceMethod yX8_undo ∈ lw_g := gd (tb_3 _ (List.mem_of_getElem? (i := 57) rfl)) rfl
theorem wV_X8_undo : Cond.selects RX8 yX8_undo yX8_undo ∈ lw_g := gd (tb_3 _ (List.mem_of_getElem? (i := 58) rfl)) rfl
theorem wK_X8_undo : Cond.code yX8_undo cX8_undo 1 (some .int) ∈ lw_g := gd (tb_3 _ (List.mem_of_getElem? (i := 59) rfl)) rfl
theorem wM_X8_129 : Cond.methodLink RX8 129 yX2_clear ∈ lw_g := gd (tb_3 _ (List.mem_of_getElem? (i := 60) rfl)) rfl
theorem wI_X2_clear : Cond.instanceMethod yX2_clear ∈ lw_g := gd (tb_3 _ (List.mem_of_getElem? (i := 61) rfl)) rfl
theorem wV_X2_clear : Cond.selects RX2 yX2_clear yX2_clear ∈ lw_g := gd (tb_3 _ (List.mem_of_getElem? (i := 62) rfl)) rfl
theorem wK_X2_clear : Cond.code yX2_clear cX2_clear 1 none ∈ lw_g := gd (tb_3 _ (List.mem_of_getElem? (i := 63) rfl)) rfl
theorem wM_X2_25 : Cond.methodLink RX2 25 yX7_clear ∈ lw_g := gd (tb_3 _ (List.mem_of_getElem? (i := 64) rfl)) rfl
theorem wI_X7_clear : Cond.instanceMethod yX7_clear ∈ lw_g := gd (tb_3 _ (List.mem_of_getElem? (i := 65) rfl)) rfl
theorem wV_X7_clear : Cond.selects RX7 yX7_clear yX7_clear ∈ lw_g := gd (tb_3 _ (List.mem_of_getElem? (i := 66) rfl)) rfl
theorem wK_X7_clear : Cond.code yX7_clear cX7_clear 1 none ∈ lw_g := gd (tb_3 _ (List.mem_of_getElem? (i := 67) rfl)) rfl
theorem wM_X2_28 : Cond.methodLink RX2 28 yX6_clear ∈ lw_g := gd (tb_3 _ (List.mem_of_getElem? (i := 68) rfl)) rfl
theorem wI_X6_clear : Cond.instanceMethod yX6_clear ∈ lw_g := gd (tb_3 _ (List.mem_of_getElem? (i := 69) rfl)) rfl
theorem wV_X6_clear : Cond.selects RX6 yX6_clear yX6_clear ∈ lw_g := gd (tb_3 _ (List.mem_of_getElem? (i := 70) rfl)) rfl
theorem wK_X6_clear : Cond.code yX6_clear cX6_clear 2 none ∈ lw_g := gd (tb_3 _ (List.mem_of_getElem? (i := 71) rfl)) rfl
theorem wM_X8_132 : Cond.methodLink RX8 132 yX8_redo ∈ lw_g := gd (tb_3 _ (List.mem_of_getElem? (i := 72) rfl)) rfl
theorem wI_X8_redo : Cond.instanceMethod yX8_redo ∈ lw_g := gd (tb_3 _ (List.mem_of_getElem? (i := 74) rfl)) rfl
theorem wK_X8_redo : Cond.code yX8_redo cX8_redo 5 none ∈ lw_g := gd (tb_3 _ (List.mem_of_getElem? (i := 75) rfl)) rfl
theorem wM_X8_224 : Cond.methodLink RX8 224 yJ9_max_7cf53 ∈ lw_g := gd (tb_3 _ (List.mem_of_getElem? (i := 76) rfl)) rfl
theorem wS_J9_max_7cf53 : Cond.static yJ9_max_7cf53 ∈ lw_g := gd (tb_3 _ (List.mem_of_getElem? (i := 77) rfl)) rfl
theorem wK_J9_max_7cf53 : Cond.code yJ9_max_7cf53 cJ9_max_7cf53 2 (some .int) ∈ lw_g := gd (tb_3 _ (List.mem_of_getElem? (i := 78) rfl)) rfl
theorem wM_L_75 : Cond.methodLink RL 75 yX8_get ∈ lw_g := gd (tb_3 _ (List.mem_of_getElem? (i := 79) rfl)) rfl
theorem wI_X8_get : Cond.instanceMethod yX8_get ∈ lw_g := gd (tb_3 _ (List.mem_of_getElem? (i := 80) rfl)) rfl
theorem wV_X8_get : Cond.selects RX8 yX8_get yX8_get ∈ lw_g := gd (tb_3 _ (List.mem_of_getElem? (i := 81) rfl)) rfl
theorem wK_X8_get : Cond.code yX8_get cX8_get 3 (some .int) ∈ lw_g := gd (tb_3 _ (List.mem_of_getElem? (i := 82) rfl)) rfl
theorem wM_X8_136 : Cond.methodLink RX8 136 yX6_isName ∈ lw_g := gd (tb_3 _ (List.mem_of_getElem? (i := 83) rfl)) rfl
theorem wM_X8_139 : Cond.methodLink RX8 139 yX8_keepCaller ∈ lw_g := gd (tb_3 _ (List.mem_of_getElem? (i := 84) rfl)) rfl
theorem wI_X8_keepCaller : Cond.instanceMethod yX8_keepCaller ∈ lw_g := gd (tb_3 _ (List.mem_of_getElem? (i := 86) rfl)) rfl
theorem wK_X8_keepCaller : Cond.code yX8_keepCaller cX8_keepCaller 8 (some .int) ∈ lw_g := gd (tb_3 _ (List.mem_of_getElem? (i := 87) rfl)) rfl
theorem wM_X8_173 : Cond.methodLink RX8 173 yX0_name ∈ lw_g := gd (tb_3 _ (List.mem_of_getElem? (i := 88) rfl)) rfl
theorem wI_X0_name : Cond.instanceMethod yX0_name ∈ lw_g := gd (tb_3 _ (List.mem_of_getElem? (i := 89) rfl)) rfl
theorem wV_X0_name : Cond.selects RX0 yX0_name yX0_name ∈ lw_g := gd (tb_3 _ (List.mem_of_getElem? (i := 90) rfl)) rfl
theorem wK_X0_name : Cond.code yX0_name cX0_name 6 none ∈ lw_g := gd (tb_3 _ (List.mem_of_getElem? (i := 91) rfl)) rfl
theorem wM_X8_177 : Cond.methodLink RX8 177 yX4_faultOf ∈ lw_g := gd (tb_3 _ (List.mem_of_getElem? (i := 92) rfl)) rfl
theorem wI_X4_faultOf : Cond.instanceMethod yX4_faultOf ∈ lw_g := gd (tb_3 _ (List.mem_of_getElem? (i := 93) rfl)) rfl
theorem wV_X4_faultOf : Cond.selects RX4 yX4_faultOf yX4_faultOf ∈ lw_g := gd (tb_3 _ (List.mem_of_getElem? (i := 94) rfl)) rfl
theorem wK_X4_faultOf : Cond.code yX4_faultOf cX4_faultOf 2 (some .int) ∈ lw_g := gd (tb_3 _ (List.mem_of_getElem? (i := 95) rfl)) rfl
theorem wM_X4_27 : Cond.methodLink RX4 27 yX4_faultOfGet ∈ lw_g := gd (tb_3 _ (List.mem_of_getElem? (i := 96) rfl)) rfl
theorem wI_X4_faultOfGet : Cond.instanceMethod yX4_faultOfGet ∈ lw_g := gd (tb_3 _ (List.mem_of_getElem? (i := 98) rfl)) rfl
theorem wK_X4_faultOfGet : Cond.code yX4_faultOfGet cX4_faultOfGet 4 (some .int) ∈ lw_g := gd (tb_3 _ (List.mem_of_getElem? (i := 99) rfl)) rfl
theorem wM_X4_59 : Cond.methodLink RX4 59 yX2_lookForField ∈ lw_g := gd (tb_3 _ (List.mem_of_getElem? (i := 100) rfl)) rfl
theorem wI_X2_lookForField : Cond.instanceMethod yX2_lookForField ∈ lw_g := gd (tb_3 _ (List.mem_of_getElem? (i := 101) rfl)) rfl
theorem wV_X2_lookForField : Cond.selects RX2 yX2_lookForField yX2_lookForField ∈ lw_g := gd (tb_3 _ (List.mem_of_getElem? (i := 102) rfl)) rfl
theorem wK_X2_lookForField : Cond.code yX2_lookForField cX2_lookForField 6 (some .int) ∈ lw_g := gd (tb_3 _ (List.mem_of_getElem? (i := 103) rfl)) rfl
theorem wM_X2_132 : Cond.methodLink RX2 132 yX7_orderFrom ∈ lw_g := gd (tb_3 _ (List.mem_of_getElem? (i := 104) rfl)) rfl
theorem wI_X7_orderFrom : Cond.instanceMethod yX7_orderFrom ∈ lw_g := gd (tb_3 _ (List.mem_of_getElem? (i := 105) rfl)) rfl
theorem wV_X7_orderFrom : Cond.selects RX7 yX7_orderFrom yX7_orderFrom ∈ lw_g := gd (tb_3 _ (List.mem_of_getElem? (i := 106) rfl)) rfl
theorem wK_X7_orderFrom : Cond.code yX7_orderFrom cX7_orderFrom 3 none ∈ lw_g := gd (tb_3 _ (List.mem_of_getElem? (i := 107) rfl)) rfl
theorem wM_X7_80 : Cond.methodLink RX7 80 yX7_walk ∈ lw_g := gd (tb_3 _ (List.mem_of_getElem? (i := 108) rfl)) rfl
theorem wI_X7_walk : Cond.instanceMethod yX7_walk ∈ lw_g := gd (tb_3 _ (List.mem_of_getElem? (i := 110) rfl)) rfl
theorem wK_X7_walk : Cond.code yX7_walk cX7_walk 5 none ∈ lw_g := gd (tb_3 _ (List.mem_of_getElem? (i := 111) rfl)) rfl
theorem wM_X2_139 : Cond.methodLink RX2 139 yX7_orderedAt ∈ lw_g := gd (tb_3 _ (List.mem_of_getElem? (i := 112) rfl)) rfl
theorem wI_X7_orderedAt : Cond.instanceMethod yX7_orderedAt ∈ lw_g := gd (tb_3 _ (List.mem_of_getElem? (i := 113) rfl)) rfl
theorem wV_X7_orderedAt : Cond.selects RX7 yX7_orderedAt yX7_orderedAt ∈ lw_g := gd (tb_3 _ (List.mem_of_getElem? (i := 114) rfl)) rfl
theorem wK_X7_orderedAt : Cond.code yX7_orderedAt cX7_orderedAt 2 (some .int) ∈ lw_g := gd (tb_3 _ (List.mem_of_getElem? (i := 115) rfl)) rfl
theorem wM_X2_142 : Cond.methodLink RX2 142 yX6_has ∈ lw_g := gd (tb_3 _ (List.mem_of_getElem? (i := 116) rfl)) rfl
theorem wI_X6_has : Cond.instanceMethod yX6_has ∈ lw_g := gd (tb_3 _ (List.mem_of_getElem? (i := 117) rfl)) rfl
theorem wV_X6_has : Cond.selects RX6 yX6_has yX6_has ∈ lw_g := gd (tb_3 _ (List.mem_of_getElem? (i := 118) rfl)) rfl
theorem wK_X6_has : Cond.code yX6_has cX6_has 3 (some .boolean) ∈ lw_g := gd (tb_3 _ (List.mem_of_getElem? (i := 119) rfl)) rfl
theorem wM_X4_63 : Cond.methodLink RX4 63 yX6_isField ∈ lw_g := gd (tb_3 _ (List.mem_of_getElem? (i := 120) rfl)) rfl
theorem wM_X4_72 : Cond.methodLink RX4 72 yX6_has ∈ lw_g := gd (tb_3 _ (List.mem_of_getElem? (i := 121) rfl)) rfl
theorem wM_X4_31 : Cond.methodLink RX4 31 yX4_faultOfCall ∈ lw_g := gd (tb_3 _ (List.mem_of_getElem? (i := 122) rfl)) rfl
theorem wI_X4_faultOfCall : Cond.instanceMethod yX4_faultOfCall ∈ lw_g := gd (tb_3 _ (List.mem_of_getElem? (i := 124) rfl)) rfl
theorem wK_X4_faultOfCall : Cond.code yX4_faultOfCall cX4_faultOfCall 4 (some .int) ∈ lw_g := gd (tb_3 _ (List.mem_of_getElem? (i := 125) rfl)) rfl
theorem wM_X4_91 : Cond.methodLink RX4 91 yX4_findFitting ∈ lw_g := gd (tb_3 _ (List.mem_of_getElem? (i := 126) rfl)) rfl
theorem wI_X4_findFitting : Cond.instanceMethod yX4_findFitting ∈ lw_g := gd (tb_3 _ (List.mem_of_getElem? (i := 128) rfl)) rfl
theorem wK_X4_findFitting : Cond.code yX4_findFitting cX4_findFitting 3 none ∈ lw_g := gd (tb_3 _ (List.mem_of_getElem? (i := 129) rfl)) rfl
theorem wM_X4_115 : Cond.methodLink RX4 115 yX7_orderFrom ∈ lw_g := gd (tb_3 _ (List.mem_of_getElem? (i := 130) rfl)) rfl
theorem wM_X4_119 : Cond.methodLink RX4 119 yX4_fits ∈ lw_g := gd (tb_3 _ (List.mem_of_getElem? (i := 131) rfl)) rfl
theorem wI_X4_fits : Cond.instanceMethod yX4_fits ∈ lw_g := gd (tb_3 _ (List.mem_of_getElem? (i := 133) rfl)) rfl
theorem wK_X4_fits : Cond.code yX4_fits cX4_fits 6 (some .boolean) ∈ lw_g := gd (tb_3 _ (List.mem_of_getElem? (i := 134) rfl)) rfl
theorem wM_X4_102 : Cond.methodLink RX4 102 yX6_isMethod ∈ lw_g := gd (tb_3 _ (List.mem_of_getElem? (i := 135) rfl)) rfl
theorem wM_X4_129 : Cond.methodLink RX4 129 yX7_goesInto ∈ lw_g := gd (tb_3 _ (List.mem_of_getElem? (i := 136) rfl)) rfl
theorem wI_X7_goesInto : Cond.instanceMethod yX7_goesInto ∈ lw_g := gd (tb_3 _ (List.mem_of_getElem? (i := 137) rfl)) rfl
theorem wV_X7_goesInto : Cond.selects RX7 yX7_goesInto yX7_goesInto ∈ lw_g := gd (tb_3 _ (List.mem_of_getElem? (i := 138) rfl)) rfl
theorem wK_X7_goesInto : Cond.code yX7_goesInto cX7_goesInto 3 (some .boolean) ∈ lw_g := gd (tb_3 _ (List.mem_of_getElem? (i := 139) rfl)) rfl
theorem wM_X7_41 : Cond.methodLink RX7 41 yX7_isBelow ∈ lw_g := gd (tb_3 _ (List.mem_of_getElem? (i := 140) rfl)) rfl
theorem wM_X4_135 : Cond.methodLink RX4 135 yX2_firstMethod ∈ lw_g := gd (tb_3 _ (List.mem_of_getElem? (i := 141) rfl)) rfl
theorem wI_X2_firstMethod : Cond.instanceMethod yX2_firstMethod ∈ lw_g := gd (tb_3 _ (List.mem_of_getElem? (i := 142) rfl)) rfl
theorem wV_X2_firstMethod : Cond.selects RX2 yX2_firstMethod yX2_firstMethod ∈ lw_g := gd (tb_3 _ (List.mem_of_getElem? (i := 143) rfl)) rfl
theorem wK_X2_firstMethod : Cond.code yX2_firstMethod cX2_firstMethod 6 (some .int) ∈ lw_g := gd (tb_3 _ (List.mem_of_getElem? (i := 144) rfl)) rfl
theorem wM_X4_98 : Cond.methodLink RX4 98 yX4_narrowest ∈ lw_g := gd (tb_3 _ (List.mem_of_getElem? (i := 145) rfl)) rfl
theorem wI_X4_narrowest : Cond.instanceMethod yX4_narrowest ∈ lw_g := gd (tb_3 _ (List.mem_of_getElem? (i := 147) rfl)) rfl
theorem wK_X4_narrowest : Cond.code yX4_narrowest cX4_narrowest 2 (some .int) ∈ lw_g := gd (tb_3 _ (List.mem_of_getElem? (i := 148) rfl)) rfl
theorem wM_X4_139 : Cond.methodLink RX4 139 yX4_goesIntoAll ∈ lw_g := gd (tb_3 _ (List.mem_of_getElem? (i := 149) rfl)) rfl
theorem wI_X4_goesIntoAll : Cond.instanceMethod yX4_goesIntoAll ∈ lw_g := gd (tb_3 _ (List.mem_of_getElem? (i := 151) rfl)) rfl
theorem wK_X4_goesIntoAll : Cond.code yX4_goesIntoAll cX4_goesIntoAll 5 (some .boolean) ∈ lw_g := gd (tb_3 _ (List.mem_of_getElem? (i := 152) rfl)) rfl
theorem wM_X4_43 : Cond.methodLink RX4 43 yX7_isFace ∈ lw_g := gd (tb_3 _ (List.mem_of_getElem? (i := 153) rfl)) rfl
theorem wM_X4_49 : Cond.methodLink RX4 49 yX7_isAbstract ∈ lw_g := gd (tb_3 _ (List.mem_of_getElem? (i := 154) rfl)) rfl
theorem wI_X7_isAbstract : Cond.instanceMethod yX7_isAbstract ∈ lw_g := gd (tb_3 _ (List.mem_of_getElem? (i := 155) rfl)) rfl
theorem wV_X7_isAbstract : Cond.selects RX7 yX7_isAbstract yX7_isAbstract ∈ lw_g := gd (tb_3 _ (List.mem_of_getElem? (i := 156) rfl)) rfl
theorem wK_X7_isAbstract : Cond.code yX7_isAbstract cX7_isAbstract 2 (some .boolean) ∈ lw_g := gd (tb_3 _ (List.mem_of_getElem? (i := 157) rfl)) rfl
theorem wM_L_79 : Cond.methodLink RL 79 yX8_call ∈ lw_g := gd (tb_3 _ (List.mem_of_getElem? (i := 158) rfl)) rfl
theorem wI_X8_call : Cond.instanceMethod yX8_call ∈ lw_g := gd (tb_3 _ (List.mem_of_getElem? (i := 159) rfl)) rfl
theorem wV_X8_call : Cond.selects RX8 yX8_call yX8_call ∈ lw_g := gd (tb_3 _ (List.mem_of_getElem? (i := 160) rfl)) rfl
theorem wK_X8_call : Cond.code yX8_call cX8_call 5 (some .int) ∈ lw_g := gd (tb_3 _ (List.mem_of_getElem? (i := 161) rfl)) rfl
theorem wM_X8_143 : Cond.methodLink RX8 143 yX7_areParameters ∈ lw_g := gd (tb_3 _ (List.mem_of_getElem? (i := 162) rfl)) rfl
theorem wM_L_84 : Cond.methodLink RL 84 yX8_make ∈ lw_g := gd (tb_3 _ (List.mem_of_getElem? (i := 163) rfl)) rfl
theorem wI_X8_make : Cond.instanceMethod yX8_make ∈ lw_g := gd (tb_3 _ (List.mem_of_getElem? (i := 164) rfl)) rfl
theorem wV_X8_make : Cond.selects RX8 yX8_make yX8_make ∈ lw_g := gd (tb_3 _ (List.mem_of_getElem? (i := 165) rfl)) rfl
theorem wK_X8_make : Cond.code yX8_make cX8_make 2 (some .int) ∈ lw_g := gd (tb_3 _ (List.mem_of_getElem? (i := 166) rfl)) rfl
theorem wM_L_88 : Cond.methodLink RL 88 yX8_meet ∈ lw_g := gd (tb_3 _ (List.mem_of_getElem? (i := 167) rfl)) rfl
theorem wI_X8_meet : Cond.instanceMethod yX8_meet ∈ lw_g := gd (tb_3 _ (List.mem_of_getElem? (i := 168) rfl)) rfl
theorem wV_X8_meet : Cond.selects RX8 yX8_meet yX8_meet ∈ lw_g := gd (tb_3 _ (List.mem_of_getElem? (i := 169) rfl)) rfl
theorem wK_X8_meet : Cond.code yX8_meet cX8_meet 4 (some .int) ∈ lw_g := gd (tb_3 _ (List.mem_of_getElem? (i := 170) rfl)) rfl
theorem wM_X8_146 : Cond.methodLink RX8 146 yX8_callerAt ∈ lw_g := gd (tb_3 _ (List.mem_of_getElem? (i := 171) rfl)) rfl
theorem wI_X8_callerAt : Cond.instanceMethod yX8_callerAt ∈ lw_g := gd (tb_3 _ (List.mem_of_getElem? (i := 173) rfl)) rfl
theorem wK_X8_callerAt : Cond.code yX8_callerAt cX8_callerAt 2 (some (.object "Edits13$Caller")) ∈ lw_g := gd (tb_3 _ (List.mem_of_getElem? (i := 174) rfl)) rfl
theorem wM_X8_150 : Cond.methodLink RX8 150 yX8_tellMeeting ∈ lw_g := gd (tb_3 _ (List.mem_of_getElem? (i := 175) rfl)) rfl
theorem wI_X8_tellMeeting : Cond.instanceMethod yX8_tellMeeting ∈ lw_g := gd (tb_3 _ (List.mem_of_getElem? (i := 177) rfl)) rfl
theorem wK_X8_tellMeeting : Cond.code yX8_tellMeeting cX8_tellMeeting 4 (some .int) ∈ lw_g := gd (tb_3 _ (List.mem_of_getElem? (i := 178) rfl)) rfl
theorem wM_X8_229 : Cond.methodLink RX8 229 yX5_failureOf ∈ lw_g := gd (tb_3 _ (List.mem_of_getElem? (i := 179) rfl)) rfl
theorem wI_X5_failureOf : Cond.instanceMethod yX5_failureOf ∈ lw_g := gd (tb_3 _ (List.mem_of_getElem? (i := 180) rfl)) rfl
theorem wV_X5_failureOf : Cond.selects RX5 yX5_failureOf yX5_failureOf ∈ lw_g := gd (tb_3 _ (List.mem_of_getElem? (i := 181) rfl)) rfl
theorem wK_X5_failureOf : Cond.code yX5_failureOf cX5_failureOf 4 (some .int) ∈ lw_g := gd (tb_3 _ (List.mem_of_getElem? (i := 182) rfl)) rfl
theorem wM_X5_31 : Cond.methodLink RX5 31 yX7_isType ∈ lw_g := gd (tb_3 _ (List.mem_of_getElem? (i := 183) rfl)) rfl
theorem wM_X5_43 : Cond.methodLink RX5 43 yX7_areParameters ∈ lw_g := gd (tb_3 _ (List.mem_of_getElem? (i := 184) rfl)) rfl
theorem wM_X5_54 : Cond.methodLink RX5 54 yX2_failureOfReading ∈ lw_g := gd (tb_3 _ (List.mem_of_getElem? (i := 185) rfl)) rfl
theorem wI_X2_failureOfReading : Cond.instanceMethod yX2_failureOfReading ∈ lw_g := gd (tb_3 _ (List.mem_of_getElem? (i := 186) rfl)) rfl
theorem wV_X2_failureOfReading : Cond.selects RX2 yX2_failureOfReading yX2_failureOfReading ∈ lw_g := gd (tb_3 _ (List.mem_of_getElem? (i := 187) rfl)) rfl
theorem wK_X2_failureOfReading : Cond.code yX2_failureOfReading cX2_failureOfReading 6 (some .int) ∈ lw_g := gd (tb_3 _ (List.mem_of_getElem? (i := 188) rfl)) rfl
theorem wM_X2_152 : Cond.methodLink RX2 152 yX7_whatIsAbove ∈ lw_g := gd (tb_3 _ (List.mem_of_getElem? (i := 189) rfl)) rfl
theorem wM_X2_170 : Cond.methodLink RX2 170 yX7_isFinal ∈ lw_g := gd (tb_3 _ (List.mem_of_getElem? (i := 190) rfl)) rfl
theorem wI_X7_isFinal : Cond.instanceMethod yX7_isFinal ∈ lw_g := gd (tb_3 _ (List.mem_of_getElem? (i := 191) rfl)) rfl
theorem wV_X7_isFinal : Cond.selects RX7 yX7_isFinal yX7_isFinal ∈ lw_g := gd (tb_3 _ (List.mem_of_getElem? (i := 192) rfl)) rfl
theorem wK_X7_isFinal : Cond.code yX7_isFinal cX7_isFinal 2 (some .boolean) ∈ lw_g := gd (tb_3 _ (List.mem_of_getElem? (i := 193) rfl)) rfl
theorem wM_X2_173 : Cond.methodLink RX2 173 yX2_isBroken ∈ lw_g := gd (tb_3 _ (List.mem_of_getElem? (i := 194) rfl)) rfl
theorem wI_X2_isBroken : Cond.instanceMethod yX2_isBroken ∈ lw_g := gd (tb_3 _ (List.mem_of_getElem? (i := 196) rfl)) rfl
theorem wK_X2_isBroken : Cond.code yX2_isBroken cX2_isBroken 5 (some .boolean) ∈ lw_g := gd (tb_3 _ (List.mem_of_getElem? (i := 197) rfl)) rfl
theorem wM_X2_176 : Cond.methodLink RX2 176 yX7_classesAbove ∈ lw_g := gd (tb_3 _ (List.mem_of_getElem? (i := 198) rfl)) rfl
theorem wI_X7_classesAbove : Cond.instanceMethod yX7_classesAbove ∈ lw_g := gd (tb_3 _ (List.mem_of_getElem? (i := 199) rfl)) rfl
theorem wV_X7_classesAbove : Cond.selects RX7 yX7_classesAbove yX7_classesAbove ∈ lw_g := gd (tb_3 _ (List.mem_of_getElem? (i := 200) rfl)) rfl
theorem wK_X7_classesAbove : Cond.code yX7_classesAbove cX7_classesAbove 2 (some .int) ∈ lw_g := gd (tb_3 _ (List.mem_of_getElem? (i := 201) rfl)) rfl
theorem wM_X2_149 : Cond.methodLink RX2 149 yX6_isOpen ∈ lw_g := gd (tb_3 _ (List.mem_of_getElem? (i := 202) rfl)) rfl
theorem wI_X6_isOpen : Cond.instanceMethod yX6_isOpen ∈ lw_g := gd (tb_3 _ (List.mem_of_getElem? (i := 203) rfl)) rfl
theorem wV_X6_isOpen : Cond.selects RX6 yX6_isOpen yX6_isOpen ∈ lw_g := gd (tb_3 _ (List.mem_of_getElem? (i := 204) rfl)) rfl
theorem wK_X6_isOpen : Cond.code yX6_isOpen cX6_isOpen 2 (some .boolean) ∈ lw_g := gd (tb_3 _ (List.mem_of_getElem? (i := 205) rfl)) rfl
theorem wM_X5_61 : Cond.methodLink RX5 61 yX5_failureOfGet ∈ lw_g := gd (tb_3 _ (List.mem_of_getElem? (i := 206) rfl)) rfl
theorem wI_X5_failureOfGet : Cond.instanceMethod yX5_failureOfGet ∈ lw_g := gd (tb_3 _ (List.mem_of_getElem? (i := 208) rfl)) rfl
theorem wK_X5_failureOfGet : Cond.code yX5_failureOfGet cX5_failureOfGet 6 (some .int) ∈ lw_g := gd (tb_3 _ (List.mem_of_getElem? (i := 209) rfl)) rfl
theorem wM_X5_79 : Cond.methodLink RX5 79 yX2_lookForField ∈ lw_g := gd (tb_3 _ (List.mem_of_getElem? (i := 210) rfl)) rfl
theorem wM_X5_83 : Cond.methodLink RX5 83 yX5_failureOfFound ∈ lw_g := gd (tb_3 _ (List.mem_of_getElem? (i := 211) rfl)) rfl
theorem wI_X5_failureOfFound : Cond.instanceMethod yX5_failureOfFound ∈ lw_g := gd (tb_3 _ (List.mem_of_getElem? (i := 213) rfl)) rfl
theorem wK_X5_failureOfFound : Cond.code yX5_failureOfFound cX5_failureOfFound 3 (some .int) ∈ lw_g := gd (tb_3 _ (List.mem_of_getElem? (i := 214) rfl)) rfl
theorem wM_X5_132 : Cond.methodLink RX5 132 yX6_isMember ∈ lw_g := gd (tb_3 _ (List.mem_of_getElem? (i := 215) rfl)) rfl
theorem wM_X5_135 : Cond.methodLink RX5 135 yX6_has ∈ lw_g := gd (tb_3 _ (List.mem_of_getElem? (i := 216) rfl)) rfl
theorem wM_X5_89 : Cond.methodLink RX5 89 yX5_failureOfObject ∈ lw_g := gd (tb_3 _ (List.mem_of_getElem? (i := 217) rfl)) rfl
theorem wI_X5_failureOfObject : Cond.instanceMethod yX5_failureOfObject ∈ lw_g := gd (tb_3 _ (List.mem_of_getElem? (i := 219) rfl)) rfl
theorem wK_X5_failureOfObject : Cond.code yX5_failureOfObject cX5_failureOfObject 4 (some .int) ∈ lw_g := gd (tb_3 _ (List.mem_of_getElem? (i := 220) rfl)) rfl
theorem wM_X5_138 : Cond.methodLink RX5 138 yX7_isBelow ∈ lw_g := gd (tb_3 _ (List.mem_of_getElem? (i := 221) rfl)) rfl
theorem wM_X5_100 : Cond.methodLink RX5 100 yX3_widens ∈ lw_g := gd (tb_3 _ (List.mem_of_getElem? (i := 222) rfl)) rfl
theorem wS_X3_widens : Cond.static yX3_widens ∈ lw_g := gd (tb_3 _ (List.mem_of_getElem? (i := 223) rfl)) rfl
theorem wK_X3_widens : Cond.code yX3_widens cX3_widens 2 (some .boolean) ∈ lw_g := gd (tb_3 _ (List.mem_of_getElem? (i := 224) rfl)) rfl
theorem wM_X3_13 : Cond.methodLink RX3 13 yX3_isKind ∈ lw_g := gd (tb_3 _ (List.mem_of_getElem? (i := 225) rfl)) rfl
theorem wM_X5_109 : Cond.methodLink RX5 109 yX3_comesOut ∈ lw_g := gd (tb_3 _ (List.mem_of_getElem? (i := 226) rfl)) rfl
theorem wM_X5_65 : Cond.methodLink RX5 65 yX5_failureOfCall ∈ lw_g := gd (tb_3 _ (List.mem_of_getElem? (i := 227) rfl)) rfl
theorem wI_X5_failureOfCall : Cond.instanceMethod yX5_failureOfCall ∈ lw_g := gd (tb_3 _ (List.mem_of_getElem? (i := 229) rfl)) rfl
theorem wK_X5_failureOfCall : Cond.code yX5_failureOfCall cX5_failureOfCall 7 (some .int) ∈ lw_g := gd (tb_3 _ (List.mem_of_getElem? (i := 230) rfl)) rfl
theorem wM_X5_113 : Cond.methodLink RX5 113 yX7_isFace ∈ lw_g := gd (tb_3 _ (List.mem_of_getElem? (i := 231) rfl)) rfl
theorem wM_X5_119 : Cond.methodLink RX5 119 yX2_lookForMethod ∈ lw_g := gd (tb_3 _ (List.mem_of_getElem? (i := 232) rfl)) rfl
theorem wI_X2_lookForMethod : Cond.instanceMethod yX2_lookForMethod ∈ lw_g := gd (tb_3 _ (List.mem_of_getElem? (i := 233) rfl)) rfl
theorem wV_X2_lookForMethod : Cond.selects RX2 yX2_lookForMethod yX2_lookForMethod ∈ lw_g := gd (tb_3 _ (List.mem_of_getElem? (i := 234) rfl)) rfl
theorem wK_X2_lookForMethod : Cond.code yX2_lookForMethod cX2_lookForMethod 5 (some .int) ∈ lw_g := gd (tb_3 _ (List.mem_of_getElem? (i := 235) rfl)) rfl
theorem wM_X2_145 : Cond.methodLink RX2 145 yX2_firstMethod ∈ lw_g := gd (tb_3 _ (List.mem_of_getElem? (i := 236) rfl)) rfl
theorem wM_X5_123 : Cond.methodLink RX5 123 yX2_select ∈ lw_g := gd (tb_3 _ (List.mem_of_getElem? (i := 237) rfl)) rfl
theorem wI_X2_select : Cond.instanceMethod yX2_select ∈ lw_g := gd (tb_3 _ (List.mem_of_getElem? (i := 238) rfl)) rfl
theorem wV_X2_select : Cond.selects RX2 yX2_select yX2_select ∈ lw_g := gd (tb_3 _ (List.mem_of_getElem? (i := 239) rfl)) rfl
theorem wK_X2_select : Cond.code yX2_select cX2_select 8 (some .int) ∈ lw_g := gd (tb_4 _ (List.mem_of_getElem? (i := 0) rfl)) rfl
theorem wM_X2_155 : Cond.methodLink RX2 155 yX2_selectOfFaces ∈ lw_g := gd (tb_4 _ (List.mem_of_getElem? (i := 1) rfl)) rfl
theorem wI_X2_selectOfFaces : Cond.instanceMethod yX2_selectOfFaces ∈ lw_g := gd (tb_4 _ (List.mem_of_getElem? (i := 3) rfl)) rfl
theorem wK_X2_selectOfFaces : Cond.code yX2_selectOfFaces cX2_selectOfFaces 10 (some .int) ∈ lw_g := gd (tb_4 _ (List.mem_of_getElem? (i := 4) rfl)) rfl
theorem wM_X2_158 : Cond.methodLink RX2 158 yX7_facesOver ∈ lw_g := gd (tb_4 _ (List.mem_of_getElem? (i := 5) rfl)) rfl
theorem wI_X7_facesOver : Cond.instanceMethod yX7_facesOver ∈ lw_g := gd (tb_4 _ (List.mem_of_getElem? (i := 6) rfl)) rfl
theorem wV_X7_facesOver : Cond.selects RX7 yX7_facesOver yX7_facesOver ∈ lw_g := gd (tb_4 _ (List.mem_of_getElem? (i := 7) rfl)) rfl
theorem wK_X7_facesOver : Cond.code yX7_facesOver cX7_facesOver 2 (some .int) ∈ lw_g := gd (tb_4 _ (List.mem_of_getElem? (i := 8) rfl)) rfl
theorem wM_X2_164 : Cond.methodLink RX2 164 yX2_isLowest ∈ lw_g := gd (tb_4 _ (List.mem_of_getElem? (i := 9) rfl)) rfl
theorem wI_X2_isLowest : Cond.instanceMethod yX2_isLowest ∈ lw_g := gd (tb_4 _ (List.mem_of_getElem? (i := 11) rfl)) rfl
theorem wK_X2_isLowest : Cond.code yX2_isLowest cX2_isLowest 4 (some .boolean) ∈ lw_g := gd (tb_4 _ (List.mem_of_getElem? (i := 12) rfl)) rfl
theorem wM_X2_167 : Cond.methodLink RX2 167 yX7_isBelow ∈ lw_g := gd (tb_4 _ (List.mem_of_getElem? (i := 13) rfl)) rfl
theorem wM_X5_126 : Cond.methodLink RX5 126 yX6_isMethod ∈ lw_g := gd (tb_4 _ (List.mem_of_getElem? (i := 14) rfl)) rfl
theorem wM_X5_68 : Cond.methodLink RX5 68 yX5_failureOfNew ∈ lw_g := gd (tb_4 _ (List.mem_of_getElem? (i := 15) rfl)) rfl
theorem wI_X5_failureOfNew : Cond.instanceMethod yX5_failureOfNew ∈ lw_g := gd (tb_4 _ (List.mem_of_getElem? (i := 17) rfl)) rfl
theorem wK_X5_failureOfNew : Cond.code yX5_failureOfNew cX5_failureOfNew 2 (some .int) ∈ lw_g := gd (tb_4 _ (List.mem_of_getElem? (i := 18) rfl)) rfl
theorem wM_X5_129 : Cond.methodLink RX5 129 yX7_isAbstract ∈ lw_g := gd (tb_4 _ (List.mem_of_getElem? (i := 19) rfl)) rfl
theorem wM_L_92 : Cond.methodLink RL 92 yX8_asked ∈ lw_g := gd (tb_4 _ (List.mem_of_getElem? (i := 20) rfl)) rfl
theorem wI_X8_asked : Cond.instanceMethod yX8_asked ∈ lw_g := gd (tb_4 _ (List.mem_of_getElem? (i := 21) rfl)) rfl
theorem wV_X8_asked : Cond.selects RX8 yX8_asked yX8_asked ∈ lw_g := gd (tb_4 _ (List.mem_of_getElem? (i := 22) rfl)) rfl
theorem wK_X8_asked : Cond.code yX8_asked cX8_asked 1 (some .long) ∈ lw_g := gd (tb_4 _ (List.mem_of_getElem? (i := 23) rfl)) rfl
theorem wM_L_97 : Cond.methodLink RL 97 yX8_anew ∈ lw_g := gd (tb_4 _ (List.mem_of_getElem? (i := 24) rfl)) rfl
theorem wI_X8_anew : Cond.instanceMethod yX8_anew ∈ lw_g := gd (tb_4 _ (List.mem_of_getElem? (i := 25) rfl)) rfl
theorem wV_X8_anew : Cond.selects RX8 yX8_anew yX8_anew ∈ lw_g := gd (tb_4 _ (List.mem_of_getElem? (i := 26) rfl)) rfl
theorem wK_X8_anew : Cond.code yX8_anew cX8_anew 5 (some .int) ∈ lw_g := gd (tb_4 _ (List.mem_of_getElem? (i := 27) rfl)) rfl
theorem wM_L_101 : Cond.methodLink RL 101 yX8_culprit ∈ lw_g := gd (tb_4 _ (List.mem_of_getElem? (i := 28) rfl)) rfl
theorem wI_X8_culprit : Cond.instanceMethod yX8_culprit ∈ lw_g := gd (tb_4 _ (List.mem_of_getElem? (i := 29) rfl)) rfl
theorem wV_X8_culprit : Cond.selects RX8 yX8_culprit yX8_culprit ∈ lw_g := gd (tb_4 _ (List.mem_of_getElem? (i := 30) rfl)) rfl
theorem wK_X8_culprit : Cond.code yX8_culprit cX8_culprit 5 (some .int) ∈ lw_g := gd (tb_4 _ (List.mem_of_getElem? (i := 31) rfl)) rfl
theorem wM_X8_184 : Cond.methodLink RX8 184 yX8_firstChange ∈ lw_g := gd (tb_4 _ (List.mem_of_getElem? (i := 32) rfl)) rfl
theorem wI_X8_firstChange : Cond.instanceMethod yX8_firstChange ∈ lw_g := gd (tb_4 _ (List.mem_of_getElem? (i := 34) rfl)) rfl
theorem wK_X8_firstChange : Cond.code yX8_firstChange cX8_firstChange 7 (some .int) ∈ lw_g := gd (tb_4 _ (List.mem_of_getElem? (i := 35) rfl)) rfl
theorem wM_L_105 : Cond.methodLink RL 105 yX8_caller ∈ lw_g := gd (tb_4 _ (List.mem_of_getElem? (i := 36) rfl)) rfl
theorem wI_X8_caller : Cond.instanceMethod yX8_caller ∈ lw_g := gd (tb_4 _ (List.mem_of_getElem? (i := 37) rfl)) rfl
theorem wV_X8_caller : Cond.selects RX8 yX8_caller yX8_caller ∈ lw_g := gd (tb_4 _ (List.mem_of_getElem? (i := 38) rfl)) rfl
theorem wK_X8_caller : Cond.code yX8_caller cX8_caller 4 (some .int) ∈ lw_g := gd (tb_4 _ (List.mem_of_getElem? (i := 39) rfl)) rfl
theorem wM_X8_187 : Cond.methodLink RX8 187 yX0_tell ∈ lw_g := gd (tb_4 _ (List.mem_of_getElem? (i := 40) rfl)) rfl
theorem wI_X0_tell : Cond.instanceMethod yX0_tell ∈ lw_g := gd (tb_4 _ (List.mem_of_getElem? (i := 41) rfl)) rfl
theorem wV_X0_tell : Cond.selects RX0 yX0_tell yX0_tell ∈ lw_g := gd (tb_4 _ (List.mem_of_getElem? (i := 42) rfl)) rfl
theorem wK_X0_tell : Cond.code yX0_tell cX0_tell 2 (some .int) ∈ lw_g := gd (tb_4 _ (List.mem_of_getElem? (i := 43) rfl)) rfl
theorem wM_L_109 : Cond.methodLink RL 109 yX8_told ∈ lw_g := gd (tb_4 _ (List.mem_of_getElem? (i := 44) rfl)) rfl
theorem wI_X8_told : Cond.instanceMethod yX8_told ∈ lw_g := gd (tb_4 _ (List.mem_of_getElem? (i := 45) rfl)) rfl
theorem wV_X8_told : Cond.selects RX8 yX8_told yX8_told ∈ lw_g := gd (tb_4 _ (List.mem_of_getElem? (i := 46) rfl)) rfl
theorem wK_X8_told : Cond.code yX8_told cX8_told 3 (some .int) ∈ lw_g := gd (tb_4 _ (List.mem_of_getElem? (i := 47) rfl)) rfl
theorem wM_X8_191 : Cond.methodLink RX8 191 yX7_tell ∈ lw_g := gd (tb_4 _ (List.mem_of_getElem? (i := 48) rfl)) rfl
theorem wI_X7_tell : Cond.instanceMethod yX7_tell ∈ lw_g := gd (tb_4 _ (List.mem_of_getElem? (i := 49) rfl)) rfl
theorem wV_X7_tell : Cond.selects RX7 yX7_tell yX7_tell ∈ lw_g := gd (tb_4 _ (List.mem_of_getElem? (i := 50) rfl)) rfl
theorem wK_X7_tell : Cond.code yX7_tell cX7_tell 3 (some .int) ∈ lw_g := gd (tb_4 _ (List.mem_of_getElem? (i := 51) rfl)) rfl
theorem wM_L_113 : Cond.methodLink RL 113 yX8_below ∈ lw_g := gd (tb_4 _ (List.mem_of_getElem? (i := 52) rfl)) rfl
theorem wI_X8_below : Cond.instanceMethod yX8_below ∈ lw_g := gd (tb_4 _ (List.mem_of_getElem? (i := 53) rfl)) rfl
theorem wV_X8_below : Cond.selects RX8 yX8_below yX8_below ∈ lw_g := gd (tb_4 _ (List.mem_of_getElem? (i := 54) rfl)) rfl
theorem wK_X8_below : Cond.code yX8_below cX8_below 3 (some .int) ∈ lw_g := gd (tb_4 _ (List.mem_of_getElem? (i := 55) rfl)) rfl
theorem wM_L_117 : Cond.methodLink RL 117 yX8_member ∈ lw_g := gd (tb_4 _ (List.mem_of_getElem? (i := 56) rfl)) rfl
theorem wI_X8_member : Cond.instanceMethod yX8_member ∈ lw_g := gd (tb_4 _ (List.mem_of_getElem? (i := 57) rfl)) rfl
theorem wV_X8_member : Cond.selects RX8 yX8_member yX8_member ∈ lw_g := gd (tb_4 _ (List.mem_of_getElem? (i := 58) rfl)) rfl
theorem wK_X8_member : Cond.code yX8_member cX8_member 3 (some .int) ∈ lw_g := gd (tb_4 _ (List.mem_of_getElem? (i := 59) rfl)) rfl
theorem wM_X8_193 : Cond.methodLink RX8 193 yX6_tell ∈ lw_g := gd (tb_4 _ (List.mem_of_getElem? (i := 60) rfl)) rfl
theorem wI_X6_tell : Cond.instanceMethod yX6_tell ∈ lw_g := gd (tb_4 _ (List.mem_of_getElem? (i := 61) rfl)) rfl
theorem wV_X6_tell : Cond.selects RX6 yX6_tell yX6_tell ∈ lw_g := gd (tb_4 _ (List.mem_of_getElem? (i := 62) rfl)) rfl
theorem wK_X6_tell : Cond.code yX6_tell cX6_tell 3 (some .int) ∈ lw_g := gd (tb_4 _ (List.mem_of_getElem? (i := 63) rfl)) rfl
theorem wM_L_121 : Cond.methodLink RL 121 yX8_selected ∈ lw_g := gd (tb_4 _ (List.mem_of_getElem? (i := 64) rfl)) rfl
theorem wI_X8_selected : Cond.instanceMethod yX8_selected ∈ lw_g := gd (tb_4 _ (List.mem_of_getElem? (i := 65) rfl)) rfl
theorem wV_X8_selected : Cond.selects RX8 yX8_selected yX8_selected ∈ lw_g := gd (tb_4 _ (List.mem_of_getElem? (i := 66) rfl)) rfl
theorem wK_X8_selected : Cond.code yX8_selected cX8_selected 4 (some .int) ∈ lw_g := gd (tb_4 _ (List.mem_of_getElem? (i := 67) rfl)) rfl
theorem wM_X8_194 : Cond.methodLink RX8 194 yX6_isMethod ∈ lw_g := gd (tb_4 _ (List.mem_of_getElem? (i := 68) rfl)) rfl
theorem wM_X8_206 : Cond.methodLink RX8 206 yX2_select ∈ lw_g := gd (tb_4 _ (List.mem_of_getElem? (i := 69) rfl)) rfl
theorem wM_L_125 : Cond.methodLink RL 125 yX8_count ∈ lw_g := gd (tb_4 _ (List.mem_of_getElem? (i := 70) rfl)) rfl
theorem wI_X8_count : Cond.instanceMethod yX8_count ∈ lw_g := gd (tb_4 _ (List.mem_of_getElem? (i := 71) rfl)) rfl
theorem wV_X8_count : Cond.selects RX8 yX8_count yX8_count ∈ lw_g := gd (tb_4 _ (List.mem_of_getElem? (i := 72) rfl)) rfl
theorem wK_X8_count : Cond.code yX8_count cX8_count 2 (some .int) ∈ lw_g := gd (tb_4 _ (List.mem_of_getElem? (i := 73) rfl)) rfl
theorem wM_L_129 : Cond.methodLink RL 129 yX8_digest ∈ lw_g := gd (tb_4 _ (List.mem_of_getElem? (i := 74) rfl)) rfl
theorem wI_X8_digest : Cond.instanceMethod yX8_digest ∈ lw_g := gd (tb_4 _ (List.mem_of_getElem? (i := 75) rfl)) rfl
theorem wV_X8_digest : Cond.selects RX8 yX8_digest yX8_digest ∈ lw_g := gd (tb_4 _ (List.mem_of_getElem? (i := 76) rfl)) rfl
theorem wK_X8_digest : Cond.code yX8_digest cX8_digest 1 (some .long) ∈ lw_g := gd (tb_4 _ (List.mem_of_getElem? (i := 77) rfl)) rfl
theorem wKL_X8_214 : Cond.constantLong "Edits13" (214 : Nat) (31 : Int64) ∈ lw_g := gd (tb_4 _ (List.mem_of_getElem? (i := 78) rfl)) rfl
theorem wKL_X8_216 : Cond.constantLong "Edits13" (216 : Nat) (17 : Int64) ∈ lw_g := gd (tb_4 _ (List.mem_of_getElem? (i := 79) rfl)) rfl
theorem wM_X8_218 : Cond.methodLink RX8 218 yX7_digestOn ∈ lw_g := gd (tb_4 _ (List.mem_of_getElem? (i := 80) rfl)) rfl
theorem wI_X7_digestOn : Cond.instanceMethod yX7_digestOn ∈ lw_g := gd (tb_4 _ (List.mem_of_getElem? (i := 81) rfl)) rfl
theorem wV_X7_digestOn : Cond.selects RX7 yX7_digestOn yX7_digestOn ∈ lw_g := gd (tb_4 _ (List.mem_of_getElem? (i := 82) rfl)) rfl
theorem wK_X7_digestOn : Cond.code yX7_digestOn cX7_digestOn 7 (some .long) ∈ lw_g := gd (tb_4 _ (List.mem_of_getElem? (i := 83) rfl)) rfl
theorem wKL_X7_84 : Cond.constantLong "Edits13$Types" (84 : Nat) (31 : Int64) ∈ lw_g := gd (tb_4 _ (List.mem_of_getElem? (i := 84) rfl)) rfl
theorem wM_X7_86 : Cond.methodLink RX7 86 yX7_tell ∈ lw_g := gd (tb_4 _ (List.mem_of_getElem? (i := 85) rfl)) rfl
theorem wM_X8_222 : Cond.methodLink RX8 222 yX6_digestOn ∈ lw_g := gd (tb_4 _ (List.mem_of_getElem? (i := 86) rfl)) rfl
theorem wI_X6_digestOn : Cond.instanceMethod yX6_digestOn ∈ lw_g := gd (tb_4 _ (List.mem_of_getElem? (i := 87) rfl)) rfl
theorem wV_X6_digestOn : Cond.selects RX6 yX6_digestOn yX6_digestOn ∈ lw_g := gd (tb_4 _ (List.mem_of_getElem? (i := 88) rfl)) rfl
theorem wK_X6_digestOn : Cond.code yX6_digestOn cX6_digestOn 7 (some .long) ∈ lw_g := gd (tb_4 _ (List.mem_of_getElem? (i := 89) rfl)) rfl
theorem wKL_X6_89 : Cond.constantLong "Edits13$Members" (89 : Nat) (31 : Int64) ∈ lw_g := gd (tb_4 _ (List.mem_of_getElem? (i := 90) rfl)) rfl
theorem wM_X6_91 : Cond.methodLink RX6 91 yX6_tell ∈ lw_g := gd (tb_4 _ (List.mem_of_getElem? (i := 91) rfl)) rfl
theorem wC_L_10 : Cond.classLink RL 10 RX9 ∈ lw_g := gd (tb_4 _ (List.mem_of_getElem? (i := 92) rfl)) rfl
theorem wT_X9 : Cond.instantiable RX9 45 ∈ lw_g := gd (tb_4 _ (List.mem_of_getElem? (i := 93) rfl)) rfl
theorem wM_L_12 : Cond.methodLink RL 12 yX9_init ∈ lw_g := gd (tb_4 _ (List.mem_of_getElem? (i := 94) rfl)) rfl
theorem wI_X9_init : Cond.instanceMethod yX9_init ∈ lw_g := gd (tb_4 _ (List.mem_of_getElem? (i := 95) rfl)) rfl
theorem wK_X9_init : Cond.code yX9_init cX9_init 1 none ∈ lw_g := gd (tb_4 _ (List.mem_of_getElem? (i := 96) rfl)) rfl
theorem wM_X9_1 : Cond.methodLink RX9 1 objectInit ∈ lw_g := gd (tb_4 _ (List.mem_of_getElem? (i := 97) rfl)) rfl
theorem wF_X9_129 : Cond.fieldLink RX9 129 "Edits13Model" "types" "I" ∈ lw_g := gd (tb_4 _ (List.mem_of_getElem? (i := 98) rfl)) rfl
theorem wF_X9_7 : Cond.fieldLink RX9 7 "Edits13Model" "isFace" "[Z" ∈ lw_g := gd (tb_4 _ (List.mem_of_getElem? (i := 99) rfl)) rfl
theorem wF_X9_13 : Cond.fieldLink RX9 13 "Edits13Model" "over" "[I" ∈ lw_g := gd (tb_4 _ (List.mem_of_getElem? (i := 100) rfl)) rfl
theorem wF_X9_17 : Cond.fieldLink RX9 17 "Edits13Model" "tMarks" "[I" ∈ lw_g := gd (tb_4 _ (List.mem_of_getElem? (i := 101) rfl)) rfl
theorem wF_X9_20 : Cond.fieldLink RX9 20 "Edits13Model" "faceMany" "[I" ∈ lw_g := gd (tb_4 _ (List.mem_of_getElem? (i := 102) rfl)) rfl
theorem wF_X9_23 : Cond.fieldLink RX9 23 "Edits13Model" "faces" "[I" ∈ lw_g := gd (tb_4 _ (List.mem_of_getElem? (i := 103) rfl)) rfl
theorem wF_X9_26 : Cond.fieldLink RX9 26 "Edits13Model" "isMember" "[Z" ∈ lw_g := gd (tb_4 _ (List.mem_of_getElem? (i := 104) rfl)) rfl
theorem wF_X9_29 : Cond.fieldLink RX9 29 "Edits13Model" "isMethod" "[Z" ∈ lw_g := gd (tb_4 _ (List.mem_of_getElem? (i := 105) rfl)) rfl
theorem wF_X9_32 : Cond.fieldLink RX9 32 "Edits13Model" "mType" "[I" ∈ lw_g := gd (tb_4 _ (List.mem_of_getElem? (i := 106) rfl)) rfl
theorem wF_X9_35 : Cond.fieldLink RX9 35 "Edits13Model" "mName" "[I" ∈ lw_g := gd (tb_4 _ (List.mem_of_getElem? (i := 107) rfl)) rfl
theorem wF_X9_38 : Cond.fieldLink RX9 38 "Edits13Model" "mMarks" "[I" ∈ lw_g := gd (tb_4 _ (List.mem_of_getElem? (i := 108) rfl)) rfl
theorem wF_X9_41 : Cond.fieldLink RX9 41 "Edits13Model" "mKind" "[I" ∈ lw_g := gd (tb_4 _ (List.mem_of_getElem? (i := 109) rfl)) rfl
theorem wF_X9_44 : Cond.fieldLink RX9 44 "Edits13Model" "mFirst" "[I" ∈ lw_g := gd (tb_4 _ (List.mem_of_getElem? (i := 110) rfl)) rfl
theorem wF_X9_47 : Cond.fieldLink RX9 47 "Edits13Model" "mSecond" "[I" ∈ lw_g := gd (tb_4 _ (List.mem_of_getElem? (i := 111) rfl)) rfl
theorem wF_X9_50 : Cond.fieldLink RX9 50 "Edits13Model" "mValue" "[J" ∈ lw_g := gd (tb_4 _ (List.mem_of_getElem? (i := 112) rfl)) rfl
theorem wF_X9_54 : Cond.fieldLink RX9 54 "Edits13Model" "queue" "[I" ∈ lw_g := gd (tb_4 _ (List.mem_of_getElem? (i := 113) rfl)) rfl
theorem wF_X9_232 : Cond.fieldLink RX9 232 "Edits13Model" "edits" "I" ∈ lw_g := gd (tb_4 _ (List.mem_of_getElem? (i := 114) rfl)) rfl
theorem wF_X9_57 : Cond.fieldLink RX9 57 "Edits13Model" "eWhat" "[I" ∈ lw_g := gd (tb_4 _ (List.mem_of_getElem? (i := 115) rfl)) rfl
theorem wF_X9_60 : Cond.fieldLink RX9 60 "Edits13Model" "eA" "[I" ∈ lw_g := gd (tb_4 _ (List.mem_of_getElem? (i := 116) rfl)) rfl
theorem wF_X9_63 : Cond.fieldLink RX9 63 "Edits13Model" "eB" "[I" ∈ lw_g := gd (tb_4 _ (List.mem_of_getElem? (i := 117) rfl)) rfl
theorem wF_X9_66 : Cond.fieldLink RX9 66 "Edits13Model" "eC" "[I" ∈ lw_g := gd (tb_4 _ (List.mem_of_getElem? (i := 118) rfl)) rfl
theorem wF_X9_69 : Cond.fieldLink RX9 69 "Edits13Model" "eD" "[I" ∈ lw_g := gd (tb_4 _ (List.mem_of_getElem? (i := 119) rfl)) rfl
theorem wF_X9_72 : Cond.fieldLink RX9 72 "Edits13Model" "eE" "[I" ∈ lw_g := gd (tb_4 _ (List.mem_of_getElem? (i := 120) rfl)) rfl
theorem wF_X9_75 : Cond.fieldLink RX9 75 "Edits13Model" "eV" "[J" ∈ lw_g := gd (tb_4 _ (List.mem_of_getElem? (i := 121) rfl)) rfl
theorem wF_X9_78 : Cond.fieldLink RX9 78 "Edits13Model" "row" "[I" ∈ lw_g := gd (tb_4 _ (List.mem_of_getElem? (i := 122) rfl)) rfl
theorem wF_X9_249 : Cond.fieldLink RX9 249 "Edits13Model" "rows" "I" ∈ lw_g := gd (tb_4 _ (List.mem_of_getElem? (i := 123) rfl)) rfl
theorem wF_X9_81 : Cond.fieldLink RX9 81 "Edits13Model" "pile" "[I" ∈ lw_g := gd (tb_4 _ (List.mem_of_getElem? (i := 124) rfl)) rfl
theorem wF_X9_84 : Cond.fieldLink RX9 84 "Edits13Model" "chain" "[I" ∈ lw_g := gd (tb_4 _ (List.mem_of_getElem? (i := 125) rfl)) rfl
theorem wF_X9_284 : Cond.fieldLink RX9 284 "Edits13Model" "callers" "I" ∈ lw_g := gd (tb_4 _ (List.mem_of_getElem? (i := 126) rfl)) rfl
theorem wF_X9_87 : Cond.fieldLink RX9 87 "Edits13Model" "cSort" "[I" ∈ lw_g := gd (tb_4 _ (List.mem_of_getElem? (i := 127) rfl)) rfl
theorem wF_X9_90 : Cond.fieldLink RX9 90 "Edits13Model" "cType" "[I" ∈ lw_g := gd (tb_4 _ (List.mem_of_getElem? (i := 128) rfl)) rfl
theorem wF_X9_93 : Cond.fieldLink RX9 93 "Edits13Model" "cName" "[I" ∈ lw_g := gd (tb_4 _ (List.mem_of_getElem? (i := 129) rfl)) rfl
theorem wF_X9_96 : Cond.fieldLink RX9 96 "Edits13Model" "cArgument" "[I" ∈ lw_g := gd (tb_4 _ (List.mem_of_getElem? (i := 130) rfl)) rfl
theorem wF_X9_99 : Cond.fieldLink RX9 99 "Edits13Model" "cOther" "[I" ∈ lw_g := gd (tb_4 _ (List.mem_of_getElem? (i := 131) rfl)) rfl
theorem wF_X9_102 : Cond.fieldLink RX9 102 "Edits13Model" "cFirst" "[I" ∈ lw_g := gd (tb_4 _ (List.mem_of_getElem? (i := 132) rfl)) rfl
theorem wF_X9_105 : Cond.fieldLink RX9 105 "Edits13Model" "cSecond" "[I" ∈ lw_g := gd (tb_4 _ (List.mem_of_getElem? (i := 133) rfl)) rfl
theorem wF_X9_108 : Cond.fieldLink RX9 108 "Edits13Model" "cKeeps" "[Z" ∈ lw_g := gd (tb_4 _ (List.mem_of_getElem? (i := 134) rfl)) rfl
theorem wF_X9_111 : Cond.fieldLink RX9 111 "Edits13Model" "cValue" "[J" ∈ lw_g := gd (tb_4 _ (List.mem_of_getElem? (i := 135) rfl)) rfl
theorem wF_X9_114 : Cond.fieldLink RX9 114 "Edits13Model" "cStatic" "[Z" ∈ lw_g := gd (tb_4 _ (List.mem_of_getElem? (i := 136) rfl)) rfl
theorem wF_X9_117 : Cond.fieldLink RX9 117 "Edits13Model" "cFace" "[Z" ∈ lw_g := gd (tb_4 _ (List.mem_of_getElem? (i := 137) rfl)) rfl
theorem wF_X9_120 : Cond.fieldLink RX9 120 "Edits13Model" "cKind" "[I" ∈ lw_g := gd (tb_4 _ (List.mem_of_getElem? (i := 138) rfl)) rfl
theorem wF_X9_123 : Cond.fieldLink RX9 123 "Edits13Model" "cEdits" "[I" ∈ lw_g := gd (tb_4 _ (List.mem_of_getElem? (i := 139) rfl)) rfl
theorem wF_X9_126 : Cond.fieldLink RX9 126 "Edits13Model" "fits" "[Z" ∈ lw_g := gd (tb_4 _ (List.mem_of_getElem? (i := 140) rfl)) rfl
theorem wF_X9_300 : Cond.fieldLink RX9 300 "Edits13Model" "gave" "J" ∈ lw_g := gd (tb_4 _ (List.mem_of_getElem? (i := 141) rfl)) rfl
theorem wF_X9_320 : Cond.fieldLink RX9 320 "Edits13Model" "latest" "J" ∈ lw_g := gd (tb_4 _ (List.mem_of_getElem? (i := 142) rfl)) rfl
theorem wM_L_17 : Cond.methodLink RL 17 yX9_type ∈ lw_g := gd (tb_4 _ (List.mem_of_getElem? (i := 234) rfl)) rfl
theorem wI_X9_type : Cond.instanceMethod yX9_type ∈ lw_g := gd (tb_4 _ (List.mem_of_getElem? (i := 235) rfl)) rfl
theorem wV_X9_type : Cond.selects RX9 yX9_type yX9_type ∈ lw_g := gd (tb_4 _ (List.mem_of_getElem? (i := 236) rfl)) rfl
theorem wK_X9_type : Cond.code yX9_type cX9_type 4 (some .int) ∈ lw_g := gd (tb_4 _ (List.mem_of_getElem? (i := 237) rfl)) rfl
theorem wM_X9_239 : Cond.methodLink RX9 239 yX9_edit ∈ lw_g := gd (tb_4 _ (List.mem_of_getElem? (i := 238) rfl)) rfl
theorem wI_X9_edit : Cond.instanceMethod yX9_edit ∈ lw_g := gd (tb_5 _ (List.mem_of_getElem? (i := 0) rfl)) rfl
theorem wK_X9_edit : Cond.code yX9_edit cX9_edit 10 (some .int) ∈ lw_g := gd (tb_5 _ (List.mem_of_getElem? (i := 1) rfl)) rfl
theorem wM_X9_228 : Cond.methodLink RX9 228 yX9_refusal ∈ lw_g := gd (tb_5 _ (List.mem_of_getElem? (i := 2) rfl)) rfl
theorem wI_X9_refusal : Cond.instanceMethod yX9_refusal ∈ lw_g := gd (tb_5 _ (List.mem_of_getElem? (i := 4) rfl)) rfl
theorem wK_X9_refusal : Cond.code yX9_refusal cX9_refusal 10 (some .int) ∈ lw_g := gd (tb_5 _ (List.mem_of_getElem? (i := 5) rfl)) rfl
theorem wM_X9_177 : Cond.methodLink RX9 177 yX9_isClass ∈ lw_g := gd (tb_5 _ (List.mem_of_getElem? (i := 6) rfl)) rfl
theorem wI_X9_isClass : Cond.instanceMethod yX9_isClass ∈ lw_g := gd (tb_5 _ (List.mem_of_getElem? (i := 8) rfl)) rfl
theorem wK_X9_isClass : Cond.code yX9_isClass cX9_isClass 2 (some .boolean) ∈ lw_g := gd (tb_5 _ (List.mem_of_getElem? (i := 9) rfl)) rfl
theorem wM_X9_137 : Cond.methodLink RX9 137 yX9_isType ∈ lw_g := gd (tb_5 _ (List.mem_of_getElem? (i := 10) rfl)) rfl
theorem wI_X9_isType : Cond.instanceMethod yX9_isType ∈ lw_g := gd (tb_5 _ (List.mem_of_getElem? (i := 12) rfl)) rfl
theorem wK_X9_isType : Cond.code yX9_isType cX9_isType 2 (some .boolean) ∈ lw_g := gd (tb_5 _ (List.mem_of_getElem? (i := 13) rfl)) rfl
theorem wM_X9_133 : Cond.methodLink RX9 133 yX9_in ∈ lw_g := gd (tb_5 _ (List.mem_of_getElem? (i := 14) rfl)) rfl
theorem wS_X9_in : Cond.static yX9_in ∈ lw_g := gd (tb_5 _ (List.mem_of_getElem? (i := 15) rfl)) rfl
theorem wK_X9_in : Cond.code yX9_in cX9_in 6 (some .boolean) ∈ lw_g := gd (tb_5 _ (List.mem_of_getElem? (i := 16) rfl)) rfl
theorem wKL_X9_180 : Cond.constantLong "Edits13Model" (180 : Nat) (3 : Int64) ∈ lw_g := gd (tb_5 _ (List.mem_of_getElem? (i := 17) rfl)) rfl
theorem wM_X9_182 : Cond.methodLink RX9 182 yX9_isBelow ∈ lw_g := gd (tb_5 _ (List.mem_of_getElem? (i := 18) rfl)) rfl
theorem wI_X9_isBelow : Cond.instanceMethod yX9_isBelow ∈ lw_g := gd (tb_5 _ (List.mem_of_getElem? (i := 20) rfl)) rfl
theorem wK_X9_isBelow : Cond.code yX9_isBelow cX9_isBelow 3 (some .boolean) ∈ lw_g := gd (tb_5 _ (List.mem_of_getElem? (i := 21) rfl)) rfl
theorem wM_X9_143 : Cond.methodLink RX9 143 yX9_ups ∈ lw_g := gd (tb_5 _ (List.mem_of_getElem? (i := 22) rfl)) rfl
theorem wI_X9_ups : Cond.instanceMethod yX9_ups ∈ lw_g := gd (tb_5 _ (List.mem_of_getElem? (i := 24) rfl)) rfl
theorem wK_X9_ups : Cond.code yX9_ups cX9_ups 8 (some .int) ∈ lw_g := gd (tb_5 _ (List.mem_of_getElem? (i := 25) rfl)) rfl
theorem wM_X9_186 : Cond.methodLink RX9 186 yX9_refusalOfFace ∈ lw_g := gd (tb_5 _ (List.mem_of_getElem? (i := 26) rfl)) rfl
theorem wI_X9_refusalOfFace : Cond.instanceMethod yX9_refusalOfFace ∈ lw_g := gd (tb_5 _ (List.mem_of_getElem? (i := 28) rfl)) rfl
theorem wK_X9_refusalOfFace : Cond.code yX9_refusalOfFace cX9_refusalOfFace 4 (some .int) ∈ lw_g := gd (tb_5 _ (List.mem_of_getElem? (i := 29) rfl)) rfl
theorem wKL_X9_190 : Cond.constantLong "Edits13Model" (190 : Nat) (9 : Int64) ∈ lw_g := gd (tb_5 _ (List.mem_of_getElem? (i := 30) rfl)) rfl
theorem wKL_X9_173 : Cond.constantLong "Edits13Model" (173 : Nat) (7 : Int64) ∈ lw_g := gd (tb_5 _ (List.mem_of_getElem? (i := 31) rfl)) rfl
theorem wM_X9_192 : Cond.methodLink RX9 192 yX9_areFieldMarks ∈ lw_g := gd (tb_5 _ (List.mem_of_getElem? (i := 32) rfl)) rfl
theorem wS_X9_areFieldMarks : Cond.static yX9_areFieldMarks ∈ lw_g := gd (tb_5 _ (List.mem_of_getElem? (i := 33) rfl)) rfl
theorem wK_X9_areFieldMarks : Cond.code yX9_areFieldMarks cX9_areFieldMarks 2 (some .boolean) ∈ lw_g := gd (tb_5 _ (List.mem_of_getElem? (i := 34) rfl)) rfl
theorem wM_X9_147 : Cond.methodLink RX9 147 yX9_ownOf ∈ lw_g := gd (tb_5 _ (List.mem_of_getElem? (i := 35) rfl)) rfl
theorem wI_X9_ownOf : Cond.instanceMethod yX9_ownOf ∈ lw_g := gd (tb_5 _ (List.mem_of_getElem? (i := 37) rfl)) rfl
theorem wK_X9_ownOf : Cond.code yX9_ownOf cX9_ownOf 8 (some .int) ∈ lw_g := gd (tb_5 _ (List.mem_of_getElem? (i := 38) rfl)) rfl
theorem wM_X9_196 : Cond.methodLink RX9 196 yX9_freeMember ∈ lw_g := gd (tb_5 _ (List.mem_of_getElem? (i := 39) rfl)) rfl
theorem wI_X9_freeMember : Cond.instanceMethod yX9_freeMember ∈ lw_g := gd (tb_5 _ (List.mem_of_getElem? (i := 41) rfl)) rfl
theorem wK_X9_freeMember : Cond.code yX9_freeMember cX9_freeMember 2 (some .int) ∈ lw_g := gd (tb_5 _ (List.mem_of_getElem? (i := 42) rfl)) rfl
theorem wM_X9_200 : Cond.methodLink RX9 200 yX9_areParameters ∈ lw_g := gd (tb_5 _ (List.mem_of_getElem? (i := 43) rfl)) rfl
theorem wI_X9_areParameters : Cond.instanceMethod yX9_areParameters ∈ lw_g := gd (tb_5 _ (List.mem_of_getElem? (i := 45) rfl)) rfl
theorem wK_X9_areParameters : Cond.code yX9_areParameters cX9_areParameters 3 (some .boolean) ∈ lw_g := gd (tb_5 _ (List.mem_of_getElem? (i := 46) rfl)) rfl
theorem wM_X9_203 : Cond.methodLink RX9 203 yX9_areMethodMarks ∈ lw_g := gd (tb_5 _ (List.mem_of_getElem? (i := 47) rfl)) rfl
theorem wS_X9_areMethodMarks : Cond.static yX9_areMethodMarks ∈ lw_g := gd (tb_5 _ (List.mem_of_getElem? (i := 48) rfl)) rfl
theorem wK_X9_areMethodMarks : Cond.code yX9_areMethodMarks cX9_areMethodMarks 1 (some .boolean) ∈ lw_g := gd (tb_5 _ (List.mem_of_getElem? (i := 49) rfl)) rfl
theorem wKL_X9_175 : Cond.constantLong "Edits13Model" (175 : Nat) (15 : Int64) ∈ lw_g := gd (tb_5 _ (List.mem_of_getElem? (i := 50) rfl)) rfl
theorem wM_X9_206 : Cond.methodLink RX9 206 yX9_refusalOfMember ∈ lw_g := gd (tb_5 _ (List.mem_of_getElem? (i := 51) rfl)) rfl
theorem wI_X9_refusalOfMember : Cond.instanceMethod yX9_refusalOfMember ∈ lw_g := gd (tb_5 _ (List.mem_of_getElem? (i := 53) rfl)) rfl
theorem wK_X9_refusalOfMember : Cond.code yX9_refusalOfMember cX9_refusalOfMember 4 (some .int) ∈ lw_g := gd (tb_5 _ (List.mem_of_getElem? (i := 54) rfl)) rfl
theorem wM_X9_210 : Cond.methodLink RX9 210 yX9_isHere ∈ lw_g := gd (tb_5 _ (List.mem_of_getElem? (i := 55) rfl)) rfl
theorem wI_X9_isHere : Cond.instanceMethod yX9_isHere ∈ lw_g := gd (tb_5 _ (List.mem_of_getElem? (i := 57) rfl)) rfl
theorem wK_X9_isHere : Cond.code yX9_isHere cX9_isHere 2 (some .boolean) ∈ lw_g := gd (tb_5 _ (List.mem_of_getElem? (i := 58) rfl)) rfl
theorem wKL_X9_141 : Cond.constantLong "Edits13Model" (141 : Nat) (59 : Int64) ∈ lw_g := gd (tb_5 _ (List.mem_of_getElem? (i := 59) rfl)) rfl
theorem wM_X9_213 : Cond.methodLink RX9 213 yX9_likeIn ∈ lw_g := gd (tb_5 _ (List.mem_of_getElem? (i := 60) rfl)) rfl
theorem wI_X9_likeIn : Cond.instanceMethod yX9_likeIn ∈ lw_g := gd (tb_5 _ (List.mem_of_getElem? (i := 62) rfl)) rfl
theorem wK_X9_likeIn : Cond.code yX9_likeIn cX9_likeIn 3 (some .int) ∈ lw_g := gd (tb_5 _ (List.mem_of_getElem? (i := 63) rfl)) rfl
theorem wM_X9_235 : Cond.methodLink RX9 235 yX9_does ∈ lw_g := gd (tb_5 _ (List.mem_of_getElem? (i := 64) rfl)) rfl
theorem wI_X9_does : Cond.instanceMethod yX9_does ∈ lw_g := gd (tb_5 _ (List.mem_of_getElem? (i := 66) rfl)) rfl
theorem wK_X9_does : Cond.code yX9_does cX9_does 11 (some .int) ∈ lw_g := gd (tb_5 _ (List.mem_of_getElem? (i := 67) rfl)) rfl
theorem wM_X9_216 : Cond.methodLink RX9 216 yX9_kept ∈ lw_g := gd (tb_5 _ (List.mem_of_getElem? (i := 68) rfl)) rfl
theorem wS_X9_kept : Cond.static yX9_kept ∈ lw_g := gd (tb_5 _ (List.mem_of_getElem? (i := 69) rfl)) rfl
theorem wK_X9_kept : Cond.code yX9_kept cX9_kept 3 (some .long) ∈ lw_g := gd (tb_5 _ (List.mem_of_getElem? (i := 70) rfl)) rfl
theorem wKL_X9_151 : Cond.constantLong "Edits13Model" (151 : Nat) (65535 : Int64) ∈ lw_g := gd (tb_5 _ (List.mem_of_getElem? (i := 71) rfl)) rfl
theorem wM_X9_153 : Cond.methodLink RX9 153 ⟨"java/lang/Float", "floatToIntBits", "(F)I"⟩ ∈ lw_g := gd (tb_5 _ (List.mem_of_getElem? (i := 72) rfl)) rfl
theorem wS_java_lang_Float_floatToIntBits__F_I : Cond.static ⟨"java/lang/Float", "floatToIntBits", "(F)I"⟩ ∈ lw_g := gd (tb_5 _ (List.mem_of_getElem? (i := 73) rfl)) rfl
theorem wK_java_lang_Float_floatToIntBits__F_I : Cond.code ⟨"java/lang/Float", "floatToIntBits", "(F)I"⟩ prog_13_method_24_code 1 (some .int) ∈ lw_g := gd (tb_5 _ (List.mem_of_getElem? (i := 74) rfl)) rfl
theorem wM_java_lang_Float_59 : Cond.methodLink "java/lang/Float" 59 ⟨"java/lang/Float", "isNaN", "(F)Z"⟩ ∈ lw_g := gd (tb_5 _ (List.mem_of_getElem? (i := 75) rfl)) rfl
theorem wS_java_lang_Float_isNaN__F_Z : Cond.static ⟨"java/lang/Float", "isNaN", "(F)Z"⟩ ∈ lw_g := gd (tb_5 _ (List.mem_of_getElem? (i := 76) rfl)) rfl
theorem wK_java_lang_Float_isNaN__F_Z : Cond.code ⟨"java/lang/Float", "isNaN", "(F)Z"⟩ prog_13_method_6_code 1 (some .boolean) ∈ lw_g := gd (tb_5 _ (List.mem_of_getElem? (i := 77) rfl)) rfl
theorem wM_java_lang_Float_74 : Cond.methodLink "java/lang/Float" 74 ⟨"java/lang/Float", "floatToRawIntBits", "(F)I"⟩ ∈ lw_g := gd (tb_5 _ (List.mem_of_getElem? (i := 78) rfl)) rfl
theorem wS_java_lang_Float_floatToRawIntBits__F_I : Cond.static ⟨"java/lang/Float", "floatToRawIntBits", "(F)I"⟩ ∈ lw_g := gd (tb_5 _ (List.mem_of_getElem? (i := 79) rfl)) rfl
theorem wK_java_lang_Float_77 : Cond.constant "java/lang/Float" (77 : Nat) (2143289344 : Int32) ∈ lw_g := gd (tb_5 _ (List.mem_of_getElem? (i := 81) rfl)) rfl
theorem wM_X9_159 : Cond.methodLink RX9 159 ⟨"java/lang/Double", "doubleToLongBits", "(D)J"⟩ ∈ lw_g := gd (tb_5 _ (List.mem_of_getElem? (i := 82) rfl)) rfl
theorem wS_java_lang_Double_doubleToLongBits__D_J : Cond.static ⟨"java/lang/Double", "doubleToLongBits", "(D)J"⟩ ∈ lw_g := gd (tb_5 _ (List.mem_of_getElem? (i := 83) rfl)) rfl
theorem wK_java_lang_Double_doubleToLongBits__D_J : Cond.code ⟨"java/lang/Double", "doubleToLongBits", "(D)J"⟩ prog_12_method_23_code 2 (some .long) ∈ lw_g := gd (tb_5 _ (List.mem_of_getElem? (i := 84) rfl)) rfl
theorem wM_java_lang_Double_122 : Cond.methodLink "java/lang/Double" 122 ⟨"java/lang/Double", "isNaN", "(D)Z"⟩ ∈ lw_g := gd (tb_5 _ (List.mem_of_getElem? (i := 85) rfl)) rfl
theorem wS_java_lang_Double_isNaN__D_Z : Cond.static ⟨"java/lang/Double", "isNaN", "(D)Z"⟩ ∈ lw_g := gd (tb_5 _ (List.mem_of_getElem? (i := 86) rfl)) rfl
theorem wK_java_lang_Double_isNaN__D_Z : Cond.code ⟨"java/lang/Double", "isNaN", "(D)Z"⟩ prog_12_method_6_code 2 (some .boolean) ∈ lw_g := gd (tb_5 _ (List.mem_of_getElem? (i := 87) rfl)) rfl
theorem wM_java_lang_Double_134 : Cond.methodLink "java/lang/Double" 134 ⟨"java/lang/Double", "doubleToRawLongBits", "(D)J"⟩ ∈ lw_g := gd (tb_5 _ (List.mem_of_getElem? (i := 88) rfl)) rfl
theorem wS_java_lang_Double_doubleToRawLongBits__D_J : Cond.static ⟨"java/lang/Double", "doubleToRawLongBits", "(D)J"⟩ ∈ lw_g := gd (tb_5 _ (List.mem_of_getElem? (i := 89) rfl)) rfl
theorem wKL_java_lang_Double_137 : Cond.constantLong "java/lang/Double" (137 : Nat) (9221120237041090560 : Int64) ∈ lw_g := gd (tb_5 _ (List.mem_of_getElem? (i := 91) rfl)) rfl
theorem wM_X9_220 : Cond.methodLink RX9 220 yX9_newMember ∈ lw_g := gd (tb_5 _ (List.mem_of_getElem? (i := 92) rfl)) rfl
theorem wI_X9_newMember : Cond.instanceMethod yX9_newMember ∈ lw_g := gd (tb_5 _ (List.mem_of_getElem? (i := 94) rfl)) rfl
theorem wK_X9_newMember : Cond.code yX9_newMember cX9_newMember 11 (some .int) ∈ lw_g := gd (tb_5 _ (List.mem_of_getElem? (i := 95) rfl)) rfl
theorem wM_X9_224 : Cond.methodLink RX9 224 yX9_doesMember ∈ lw_g := gd (tb_5 _ (List.mem_of_getElem? (i := 96) rfl)) rfl
theorem wI_X9_doesMember : Cond.instanceMethod yX9_doesMember ∈ lw_g := gd (tb_5 _ (List.mem_of_getElem? (i := 98) rfl)) rfl
theorem wK_X9_doesMember : Cond.code yX9_doesMember cX9_doesMember 7 (some .int) ∈ lw_g := gd (tb_5 _ (List.mem_of_getElem? (i := 99) rfl)) rfl
theorem wM_L_22 : Cond.methodLink RL 22 yX9_above ∈ lw_g := gd (tb_5 _ (List.mem_of_getElem? (i := 100) rfl)) rfl
theorem wI_X9_above : Cond.instanceMethod yX9_above ∈ lw_g := gd (tb_5 _ (List.mem_of_getElem? (i := 101) rfl)) rfl
theorem wV_X9_above : Cond.selects RX9 yX9_above yX9_above ∈ lw_g := gd (tb_5 _ (List.mem_of_getElem? (i := 102) rfl)) rfl
theorem wK_X9_above : Cond.code yX9_above cX9_above 3 (some .int) ∈ lw_g := gd (tb_5 _ (List.mem_of_getElem? (i := 103) rfl)) rfl
theorem wM_L_26 : Cond.methodLink RL 26 yX9_face ∈ lw_g := gd (tb_5 _ (List.mem_of_getElem? (i := 104) rfl)) rfl
theorem wI_X9_face : Cond.instanceMethod yX9_face ∈ lw_g := gd (tb_5 _ (List.mem_of_getElem? (i := 105) rfl)) rfl
theorem wV_X9_face : Cond.selects RX9 yX9_face yX9_face ∈ lw_g := gd (tb_5 _ (List.mem_of_getElem? (i := 106) rfl)) rfl
theorem wK_X9_face : Cond.code yX9_face cX9_face 3 (some .int) ∈ lw_g := gd (tb_5 _ (List.mem_of_getElem? (i := 107) rfl)) rfl
theorem wM_L_30 : Cond.methodLink RL 30 yX9_unface ∈ lw_g := gd (tb_5 _ (List.mem_of_getElem? (i := 108) rfl)) rfl
theorem wI_X9_unface : Cond.instanceMethod yX9_unface ∈ lw_g := gd (tb_5 _ (List.mem_of_getElem? (i := 109) rfl)) rfl
theorem wV_X9_unface : Cond.selects RX9 yX9_unface yX9_unface ∈ lw_g := gd (tb_5 _ (List.mem_of_getElem? (i := 110) rfl)) rfl
theorem wK_X9_unface : Cond.code yX9_unface cX9_unface 3 (some .int) ∈ lw_g := gd (tb_5 _ (List.mem_of_getElem? (i := 111) rfl)) rfl
theorem wM_L_34 : Cond.methodLink RL 34 yX9_marks ∈ lw_g := gd (tb_5 _ (List.mem_of_getElem? (i := 112) rfl)) rfl
theorem wI_X9_marks : Cond.instanceMethod yX9_marks ∈ lw_g := gd (tb_5 _ (List.mem_of_getElem? (i := 113) rfl)) rfl
theorem wV_X9_marks : Cond.selects RX9 yX9_marks yX9_marks ∈ lw_g := gd (tb_5 _ (List.mem_of_getElem? (i := 114) rfl)) rfl
theorem wK_X9_marks : Cond.code yX9_marks cX9_marks 3 (some .int) ∈ lw_g := gd (tb_5 _ (List.mem_of_getElem? (i := 115) rfl)) rfl
theorem wM_L_41 : Cond.methodLink RL 41 yX9_field ∈ lw_g := gd (tb_5 _ (List.mem_of_getElem? (i := 116) rfl)) rfl
theorem wI_X9_field : Cond.instanceMethod yX9_field ∈ lw_g := gd (tb_5 _ (List.mem_of_getElem? (i := 117) rfl)) rfl
theorem wV_X9_field : Cond.selects RX9 yX9_field yX9_field ∈ lw_g := gd (tb_5 _ (List.mem_of_getElem? (i := 118) rfl)) rfl
theorem wK_X9_field : Cond.code yX9_field cX9_field 7 (some .int) ∈ lw_g := gd (tb_5 _ (List.mem_of_getElem? (i := 119) rfl)) rfl
theorem wM_L_46 : Cond.methodLink RL 46 yX9_method ∈ lw_g := gd (tb_5 _ (List.mem_of_getElem? (i := 120) rfl)) rfl
theorem wI_X9_method : Cond.instanceMethod yX9_method ∈ lw_g := gd (tb_5 _ (List.mem_of_getElem? (i := 121) rfl)) rfl
theorem wV_X9_method : Cond.selects RX9 yX9_method yX9_method ∈ lw_g := gd (tb_5 _ (List.mem_of_getElem? (i := 122) rfl)) rfl
theorem wK_X9_method : Cond.code yX9_method cX9_method 7 (some .int) ∈ lw_g := gd (tb_5 _ (List.mem_of_getElem? (i := 123) rfl)) rfl
theorem wM_L_51 : Cond.methodLink RL 51 yX9_drop ∈ lw_g := gd (tb_5 _ (List.mem_of_getElem? (i := 124) rfl)) rfl
theorem wI_X9_drop : Cond.instanceMethod yX9_drop ∈ lw_g := gd (tb_5 _ (List.mem_of_getElem? (i := 125) rfl)) rfl
theorem wV_X9_drop : Cond.selects RX9 yX9_drop yX9_drop ∈ lw_g := gd (tb_5 _ (List.mem_of_getElem? (i := 126) rfl)) rfl
theorem wK_X9_drop : Cond.code yX9_drop cX9_drop 2 (some .int) ∈ lw_g := gd (tb_5 _ (List.mem_of_getElem? (i := 127) rfl)) rfl
theorem wM_L_55 : Cond.methodLink RL 55 yX9_mark ∈ lw_g := gd (tb_5 _ (List.mem_of_getElem? (i := 128) rfl)) rfl
theorem wI_X9_mark : Cond.instanceMethod yX9_mark ∈ lw_g := gd (tb_5 _ (List.mem_of_getElem? (i := 129) rfl)) rfl
theorem wV_X9_mark : Cond.selects RX9 yX9_mark yX9_mark ∈ lw_g := gd (tb_5 _ (List.mem_of_getElem? (i := 130) rfl)) rfl
theorem wK_X9_mark : Cond.code yX9_mark cX9_mark 3 (some .int) ∈ lw_g := gd (tb_5 _ (List.mem_of_getElem? (i := 131) rfl)) rfl
theorem wM_L_60 : Cond.methodLink RL 60 yX9_set ∈ lw_g := gd (tb_5 _ (List.mem_of_getElem? (i := 132) rfl)) rfl
theorem wI_X9_set : Cond.instanceMethod yX9_set ∈ lw_g := gd (tb_5 _ (List.mem_of_getElem? (i := 133) rfl)) rfl
theorem wV_X9_set : Cond.selects RX9 yX9_set yX9_set ∈ lw_g := gd (tb_5 _ (List.mem_of_getElem? (i := 134) rfl)) rfl
theorem wK_X9_set : Cond.code yX9_set cX9_set 4 (some .int) ∈ lw_g := gd (tb_5 _ (List.mem_of_getElem? (i := 135) rfl)) rfl
theorem wM_L_65 : Cond.methodLink RL 65 yX9_retype ∈ lw_g := gd (tb_5 _ (List.mem_of_getElem? (i := 136) rfl)) rfl
theorem wI_X9_retype : Cond.instanceMethod yX9_retype ∈ lw_g := gd (tb_5 _ (List.mem_of_getElem? (i := 137) rfl)) rfl
theorem wV_X9_retype : Cond.selects RX9 yX9_retype yX9_retype ∈ lw_g := gd (tb_5 _ (List.mem_of_getElem? (i := 138) rfl)) rfl
theorem wK_X9_retype : Cond.code yX9_retype cX9_retype 5 (some .int) ∈ lw_g := gd (tb_5 _ (List.mem_of_getElem? (i := 139) rfl)) rfl
theorem wM_L_69 : Cond.methodLink RL 69 yX9_move ∈ lw_g := gd (tb_5 _ (List.mem_of_getElem? (i := 140) rfl)) rfl
theorem wI_X9_move : Cond.instanceMethod yX9_move ∈ lw_g := gd (tb_5 _ (List.mem_of_getElem? (i := 141) rfl)) rfl
theorem wV_X9_move : Cond.selects RX9 yX9_move yX9_move ∈ lw_g := gd (tb_5 _ (List.mem_of_getElem? (i := 142) rfl)) rfl
theorem wK_X9_move : Cond.code yX9_move cX9_move 3 (some .int) ∈ lw_g := gd (tb_5 _ (List.mem_of_getElem? (i := 143) rfl)) rfl
theorem wM_L_74 : Cond.methodLink RL 74 yX9_undo ∈ lw_g := gd (tb_5 _ (List.mem_of_getElem? (i := 144) rfl)) rfl
theorem wI_X9_undo : Cond.instanceMethod yX9_undo ∈ lw_g := gd (tb_5 _ (List.mem_of_getElem? (i := 145) rfl)) rfl
theorem wV_X9_undo : Cond.selects RX9 yX9_undo yX9_undo ∈ lw_g := gd (tb_5 _ (List.mem_of_getElem? (i := 146) rfl)) rfl
theorem wK_X9_undo : Cond.code yX9_undo cX9_undo 1 (some .int) ∈ lw_g := gd (tb_5 _ (List.mem_of_getElem? (i := 147) rfl)) rfl
theorem wM_X9_242 : Cond.methodLink RX9 242 yX9_nothing ∈ lw_g := gd (tb_5 _ (List.mem_of_getElem? (i := 148) rfl)) rfl
theorem wI_X9_nothing : Cond.instanceMethod yX9_nothing ∈ lw_g := gd (tb_5 _ (List.mem_of_getElem? (i := 150) rfl)) rfl
theorem wK_X9_nothing : Cond.code yX9_nothing cX9_nothing 2 none ∈ lw_g := gd (tb_5 _ (List.mem_of_getElem? (i := 151) rfl)) rfl
theorem wM_X9_245 : Cond.methodLink RX9 245 yX9_doAgain ∈ lw_g := gd (tb_5 _ (List.mem_of_getElem? (i := 152) rfl)) rfl
theorem wI_X9_doAgain : Cond.instanceMethod yX9_doAgain ∈ lw_g := gd (tb_5 _ (List.mem_of_getElem? (i := 154) rfl)) rfl
theorem wK_X9_doAgain : Cond.code yX9_doAgain cX9_doAgain 5 none ∈ lw_g := gd (tb_5 _ (List.mem_of_getElem? (i := 155) rfl)) rfl
theorem wM_L_124 : Cond.methodLink RL 124 yX9_selected ∈ lw_g := gd (tb_5 _ (List.mem_of_getElem? (i := 156) rfl)) rfl
theorem wI_X9_selected : Cond.instanceMethod yX9_selected ∈ lw_g := gd (tb_5 _ (List.mem_of_getElem? (i := 157) rfl)) rfl
theorem wV_X9_selected : Cond.selects RX9 yX9_selected yX9_selected ∈ lw_g := gd (tb_5 _ (List.mem_of_getElem? (i := 158) rfl)) rfl
theorem wK_X9_selected : Cond.code yX9_selected cX9_selected 4 (some .int) ∈ lw_g := gd (tb_5 _ (List.mem_of_getElem? (i := 159) rfl)) rfl
theorem wM_X9_262 : Cond.methodLink RX9 262 yX9_select ∈ lw_g := gd (tb_5 _ (List.mem_of_getElem? (i := 160) rfl)) rfl
theorem wI_X9_select : Cond.instanceMethod yX9_select ∈ lw_g := gd (tb_5 _ (List.mem_of_getElem? (i := 162) rfl)) rfl
theorem wK_X9_select : Cond.code yX9_select cX9_select 13 (some .int) ∈ lw_g := gd (tb_5 _ (List.mem_of_getElem? (i := 163) rfl)) rfl
theorem wM_X9_256 : Cond.methodLink RX9 256 yX9_chainOf ∈ lw_g := gd (tb_5 _ (List.mem_of_getElem? (i := 164) rfl)) rfl
theorem wI_X9_chainOf : Cond.instanceMethod yX9_chainOf ∈ lw_g := gd (tb_5 _ (List.mem_of_getElem? (i := 166) rfl)) rfl
theorem wK_X9_chainOf : Cond.code yX9_chainOf cX9_chainOf 4 (some .int) ∈ lw_g := gd (tb_5 _ (List.mem_of_getElem? (i := 167) rfl)) rfl
theorem wM_L_78 : Cond.methodLink RL 78 yX9_get ∈ lw_g := gd (tb_5 _ (List.mem_of_getElem? (i := 168) rfl)) rfl
theorem wI_X9_get : Cond.instanceMethod yX9_get ∈ lw_g := gd (tb_5 _ (List.mem_of_getElem? (i := 169) rfl)) rfl
theorem wV_X9_get : Cond.selects RX9 yX9_get yX9_get ∈ lw_g := gd (tb_5 _ (List.mem_of_getElem? (i := 170) rfl)) rfl
theorem wK_X9_get : Cond.code yX9_get cX9_get 3 (some .int) ∈ lw_g := gd (tb_5 _ (List.mem_of_getElem? (i := 171) rfl)) rfl
theorem wM_X9_290 : Cond.methodLink RX9 290 yX9_newCaller ∈ lw_g := gd (tb_5 _ (List.mem_of_getElem? (i := 172) rfl)) rfl
theorem wI_X9_newCaller : Cond.instanceMethod yX9_newCaller ∈ lw_g := gd (tb_5 _ (List.mem_of_getElem? (i := 174) rfl)) rfl
theorem wK_X9_newCaller : Cond.code yX9_newCaller cX9_newCaller 7 (some .int) ∈ lw_g := gd (tb_5 _ (List.mem_of_getElem? (i := 175) rfl)) rfl
theorem wM_X9_287 : Cond.methodLink RX9 287 yX9_making ∈ lw_g := gd (tb_5 _ (List.mem_of_getElem? (i := 176) rfl)) rfl
theorem wI_X9_making : Cond.instanceMethod yX9_making ∈ lw_g := gd (tb_5 _ (List.mem_of_getElem? (i := 178) rfl)) rfl
theorem wK_X9_making : Cond.code yX9_making cX9_making 8 (some .int) ∈ lw_g := gd (tb_5 _ (List.mem_of_getElem? (i := 179) rfl)) rfl
theorem wM_X9_266 : Cond.methodLink RX9 266 yX9_lookForField ∈ lw_g := gd (tb_5 _ (List.mem_of_getElem? (i := 180) rfl)) rfl
theorem wI_X9_lookForField : Cond.instanceMethod yX9_lookForField ∈ lw_g := gd (tb_5 _ (List.mem_of_getElem? (i := 182) rfl)) rfl
theorem wK_X9_lookForField : Cond.code yX9_lookForField cX9_lookForField 8 (some .int) ∈ lw_g := gd (tb_5 _ (List.mem_of_getElem? (i := 183) rfl)) rfl
theorem wM_X9_259 : Cond.methodLink RX9 259 yX9_facesOf ∈ lw_g := gd (tb_5 _ (List.mem_of_getElem? (i := 184) rfl)) rfl
theorem wI_X9_facesOf : Cond.instanceMethod yX9_facesOf ∈ lw_g := gd (tb_5 _ (List.mem_of_getElem? (i := 186) rfl)) rfl
theorem wK_X9_facesOf : Cond.code yX9_facesOf cX9_facesOf 3 none ∈ lw_g := gd (tb_5 _ (List.mem_of_getElem? (i := 187) rfl)) rfl
theorem wM_X9_252 : Cond.methodLink RX9 252 yX9_faceRow ∈ lw_g := gd (tb_5 _ (List.mem_of_getElem? (i := 188) rfl)) rfl
theorem wI_X9_faceRow : Cond.instanceMethod yX9_faceRow ∈ lw_g := gd (tb_5 _ (List.mem_of_getElem? (i := 190) rfl)) rfl
theorem wK_X9_faceRow : Cond.code yX9_faceRow cX9_faceRow 5 none ∈ lw_g := gd (tb_5 _ (List.mem_of_getElem? (i := 191) rfl)) rfl
theorem wM_X9_270 : Cond.methodLink RX9 270 yX9_comes ∈ lw_g := gd (tb_5 _ (List.mem_of_getElem? (i := 192) rfl)) rfl
theorem wS_X9_comes : Cond.static yX9_comes ∈ lw_g := gd (tb_5 _ (List.mem_of_getElem? (i := 193) rfl)) rfl
theorem wK_X9_comes : Cond.code yX9_comes cX9_comes 5 (some .long) ∈ lw_g := gd (tb_5 _ (List.mem_of_getElem? (i := 194) rfl)) rfl
theorem wM_X9_165 : Cond.methodLink RX9 165 ⟨"java/lang/Double", "longBitsToDouble", "(J)D"⟩ ∈ lw_g := gd (tb_5 _ (List.mem_of_getElem? (i := 195) rfl)) rfl
theorem wS_java_lang_Double_longBitsToDouble__J_D : Cond.static ⟨"java/lang/Double", "longBitsToDouble", "(J)D"⟩ ∈ lw_g := gd (tb_5 _ (List.mem_of_getElem? (i := 196) rfl)) rfl
theorem wM_X9_169 : Cond.methodLink RX9 169 ⟨"java/lang/Float", "intBitsToFloat", "(I)F"⟩ ∈ lw_g := gd (tb_5 _ (List.mem_of_getElem? (i := 198) rfl)) rfl
theorem wS_java_lang_Float_intBitsToFloat__I_F : Cond.static ⟨"java/lang/Float", "intBitsToFloat", "(I)F"⟩ ∈ lw_g := gd (tb_5 _ (List.mem_of_getElem? (i := 199) rfl)) rfl
theorem wM_X9_274 : Cond.methodLink RX9 274 yX9_makingCall ∈ lw_g := gd (tb_5 _ (List.mem_of_getElem? (i := 201) rfl)) rfl
theorem wI_X9_makingCall : Cond.instanceMethod yX9_makingCall ∈ lw_g := gd (tb_5 _ (List.mem_of_getElem? (i := 203) rfl)) rfl
theorem wK_X9_makingCall : Cond.code yX9_makingCall cX9_makingCall 10 (some .int) ∈ lw_g := gd (tb_5 _ (List.mem_of_getElem? (i := 204) rfl)) rfl
theorem wM_X9_278 : Cond.methodLink RX9 278 yX9_isUnder ∈ lw_g := gd (tb_5 _ (List.mem_of_getElem? (i := 205) rfl)) rfl
theorem wI_X9_isUnder : Cond.instanceMethod yX9_isUnder ∈ lw_g := gd (tb_5 _ (List.mem_of_getElem? (i := 207) rfl)) rfl
theorem wK_X9_isUnder : Cond.code yX9_isUnder cX9_isUnder 3 (some .boolean) ∈ lw_g := gd (tb_5 _ (List.mem_of_getElem? (i := 208) rfl)) rfl
theorem wM_X9_281 : Cond.methodLink RX9 281 yX9_lookForMethod ∈ lw_g := gd (tb_5 _ (List.mem_of_getElem? (i := 209) rfl)) rfl
theorem wI_X9_lookForMethod : Cond.instanceMethod yX9_lookForMethod ∈ lw_g := gd (tb_5 _ (List.mem_of_getElem? (i := 211) rfl)) rfl
theorem wK_X9_lookForMethod : Cond.code yX9_lookForMethod cX9_lookForMethod 9 (some .int) ∈ lw_g := gd (tb_5 _ (List.mem_of_getElem? (i := 212) rfl)) rfl
theorem wM_L_83 : Cond.methodLink RL 83 yX9_call ∈ lw_g := gd (tb_5 _ (List.mem_of_getElem? (i := 213) rfl)) rfl
theorem wI_X9_call : Cond.instanceMethod yX9_call ∈ lw_g := gd (tb_5 _ (List.mem_of_getElem? (i := 214) rfl)) rfl
theorem wV_X9_call : Cond.selects RX9 yX9_call yX9_call ∈ lw_g := gd (tb_5 _ (List.mem_of_getElem? (i := 215) rfl)) rfl
theorem wK_X9_call : Cond.code yX9_call cX9_call 5 (some .int) ∈ lw_g := gd (tb_5 _ (List.mem_of_getElem? (i := 216) rfl)) rfl
theorem wM_L_87 : Cond.methodLink RL 87 yX9_make ∈ lw_g := gd (tb_5 _ (List.mem_of_getElem? (i := 217) rfl)) rfl
theorem wI_X9_make : Cond.instanceMethod yX9_make ∈ lw_g := gd (tb_5 _ (List.mem_of_getElem? (i := 218) rfl)) rfl
theorem wV_X9_make : Cond.selects RX9 yX9_make yX9_make ∈ lw_g := gd (tb_5 _ (List.mem_of_getElem? (i := 219) rfl)) rfl
theorem wK_X9_make : Cond.code yX9_make cX9_make 2 (some .int) ∈ lw_g := gd (tb_5 _ (List.mem_of_getElem? (i := 220) rfl)) rfl
theorem wM_L_91 : Cond.methodLink RL 91 yX9_meet ∈ lw_g := gd (tb_5 _ (List.mem_of_getElem? (i := 221) rfl)) rfl
theorem wI_X9_meet : Cond.instanceMethod yX9_meet ∈ lw_g := gd (tb_5 _ (List.mem_of_getElem? (i := 222) rfl)) rfl
theorem wV_X9_meet : Cond.selects RX9 yX9_meet yX9_meet ∈ lw_g := gd (tb_5 _ (List.mem_of_getElem? (i := 223) rfl)) rfl
theorem wK_X9_meet : Cond.code yX9_meet cX9_meet 3 (some .int) ∈ lw_g := gd (tb_5 _ (List.mem_of_getElem? (i := 224) rfl)) rfl
theorem wM_X9_323 : Cond.methodLink RX9 323 yX9_isCaller ∈ lw_g := gd (tb_5 _ (List.mem_of_getElem? (i := 225) rfl)) rfl
theorem wI_X9_isCaller : Cond.instanceMethod yX9_isCaller ∈ lw_g := gd (tb_5 _ (List.mem_of_getElem? (i := 227) rfl)) rfl
theorem wK_X9_isCaller : Cond.code yX9_isCaller cX9_isCaller 2 (some .boolean) ∈ lw_g := gd (tb_5 _ (List.mem_of_getElem? (i := 228) rfl)) rfl
theorem wM_X9_326 : Cond.methodLink RX9 326 yX9_answer ∈ lw_g := gd (tb_5 _ (List.mem_of_getElem? (i := 229) rfl)) rfl
theorem wI_X9_answer : Cond.instanceMethod yX9_answer ∈ lw_g := gd (tb_5 _ (List.mem_of_getElem? (i := 231) rfl)) rfl
theorem wK_X9_answer : Cond.code yX9_answer cX9_answer 4 (some .int) ∈ lw_g := gd (tb_5 _ (List.mem_of_getElem? (i := 232) rfl)) rfl
theorem wM_X9_317 : Cond.methodLink RX9 317 yX9_meets ∈ lw_g := gd (tb_5 _ (List.mem_of_getElem? (i := 233) rfl)) rfl
theorem wI_X9_meets : Cond.instanceMethod yX9_meets ∈ lw_g := gd (tb_5 _ (List.mem_of_getElem? (i := 235) rfl)) rfl
theorem wK_X9_meets : Cond.code yX9_meets cX9_meets 8 (some .int) ∈ lw_g := gd (tb_5 _ (List.mem_of_getElem? (i := 236) rfl)) rfl
theorem wM_X9_297 : Cond.methodLink RX9 297 yX9_isGone ∈ lw_g := gd (tb_5 _ (List.mem_of_getElem? (i := 237) rfl)) rfl
theorem wI_X9_isGone : Cond.instanceMethod yX9_isGone ∈ lw_g := gd (tb_5 _ (List.mem_of_getElem? (i := 239) rfl)) rfl
theorem wK_X9_isGone : Cond.code yX9_isGone cX9_isGone 2 (some .boolean) ∈ lw_g := gd (tb_6 _ (List.mem_of_getElem? (i := 0) rfl)) rfl
theorem wM_X9_304 : Cond.methodLink RX9 304 yX9_readFails ∈ lw_g := gd (tb_6 _ (List.mem_of_getElem? (i := 1) rfl)) rfl
theorem wI_X9_readFails : Cond.instanceMethod yX9_readFails ∈ lw_g := gd (tb_6 _ (List.mem_of_getElem? (i := 3) rfl)) rfl
theorem wK_X9_readFails : Cond.code yX9_readFails cX9_readFails 5 (some .int) ∈ lw_g := gd (tb_6 _ (List.mem_of_getElem? (i := 4) rfl)) rfl
theorem wM_X9_293 : Cond.methodLink RX9 293 yX9_isFinalAbove ∈ lw_g := gd (tb_6 _ (List.mem_of_getElem? (i := 5) rfl)) rfl
theorem wI_X9_isFinalAbove : Cond.instanceMethod yX9_isFinalAbove ∈ lw_g := gd (tb_6 _ (List.mem_of_getElem? (i := 7) rfl)) rfl
theorem wK_X9_isFinalAbove : Cond.code yX9_isFinalAbove cX9_isFinalAbove 6 (some .boolean) ∈ lw_g := gd (tb_6 _ (List.mem_of_getElem? (i := 8) rfl)) rfl
theorem wM_X9_307 : Cond.methodLink RX9 307 yX9_meetsMethod ∈ lw_g := gd (tb_6 _ (List.mem_of_getElem? (i := 9) rfl)) rfl
theorem wI_X9_meetsMethod : Cond.instanceMethod yX9_meetsMethod ∈ lw_g := gd (tb_6 _ (List.mem_of_getElem? (i := 11) rfl)) rfl
theorem wK_X9_meetsMethod : Cond.code yX9_meetsMethod cX9_meetsMethod 6 (some .int) ∈ lw_g := gd (tb_6 _ (List.mem_of_getElem? (i := 12) rfl)) rfl
theorem wM_X9_311 : Cond.methodLink RX9 311 yX9_meetsField ∈ lw_g := gd (tb_6 _ (List.mem_of_getElem? (i := 13) rfl)) rfl
theorem wI_X9_meetsField : Cond.instanceMethod yX9_meetsField ∈ lw_g := gd (tb_6 _ (List.mem_of_getElem? (i := 15) rfl)) rfl
theorem wK_X9_meetsField : Cond.code yX9_meetsField cX9_meetsField 3 (some .int) ∈ lw_g := gd (tb_6 _ (List.mem_of_getElem? (i := 16) rfl)) rfl
theorem wM_X9_314 : Cond.methodLink RX9 314 yX9_widens ∈ lw_g := gd (tb_6 _ (List.mem_of_getElem? (i := 17) rfl)) rfl
theorem wS_X9_widens : Cond.static yX9_widens ∈ lw_g := gd (tb_6 _ (List.mem_of_getElem? (i := 18) rfl)) rfl
theorem wK_X9_widens : Cond.code yX9_widens cX9_widens 2 (some .boolean) ∈ lw_g := gd (tb_6 _ (List.mem_of_getElem? (i := 19) rfl)) rfl
theorem wM_L_96 : Cond.methodLink RL 96 yX9_asked ∈ lw_g := gd (tb_6 _ (List.mem_of_getElem? (i := 20) rfl)) rfl
theorem wI_X9_asked : Cond.instanceMethod yX9_asked ∈ lw_g := gd (tb_6 _ (List.mem_of_getElem? (i := 21) rfl)) rfl
theorem wV_X9_asked : Cond.selects RX9 yX9_asked yX9_asked ∈ lw_g := gd (tb_6 _ (List.mem_of_getElem? (i := 22) rfl)) rfl
theorem wK_X9_asked : Cond.code yX9_asked cX9_asked 1 (some .long) ∈ lw_g := gd (tb_6 _ (List.mem_of_getElem? (i := 23) rfl)) rfl
theorem wM_L_100 : Cond.methodLink RL 100 yX9_anew ∈ lw_g := gd (tb_6 _ (List.mem_of_getElem? (i := 24) rfl)) rfl
theorem wI_X9_anew : Cond.instanceMethod yX9_anew ∈ lw_g := gd (tb_6 _ (List.mem_of_getElem? (i := 25) rfl)) rfl
theorem wV_X9_anew : Cond.selects RX9 yX9_anew yX9_anew ∈ lw_g := gd (tb_6 _ (List.mem_of_getElem? (i := 26) rfl)) rfl
theorem wK_X9_anew : Cond.code yX9_anew cX9_anew 4 (some .int) ∈ lw_g := gd (tb_6 _ (List.mem_of_getElem? (i := 27) rfl)) rfl
theorem wM_L_104 : Cond.methodLink RL 104 yX9_culprit ∈ lw_g := gd (tb_6 _ (List.mem_of_getElem? (i := 28) rfl)) rfl
theorem wI_X9_culprit : Cond.instanceMethod yX9_culprit ∈ lw_g := gd (tb_6 _ (List.mem_of_getElem? (i := 29) rfl)) rfl
theorem wV_X9_culprit : Cond.selects RX9 yX9_culprit yX9_culprit ∈ lw_g := gd (tb_6 _ (List.mem_of_getElem? (i := 30) rfl)) rfl
theorem wK_X9_culprit : Cond.code yX9_culprit cX9_culprit 10 (some .int) ∈ lw_g := gd (tb_6 _ (List.mem_of_getElem? (i := 31) rfl)) rfl
theorem wM_L_108 : Cond.methodLink RL 108 yX9_caller ∈ lw_g := gd (tb_6 _ (List.mem_of_getElem? (i := 32) rfl)) rfl
theorem wI_X9_caller : Cond.instanceMethod yX9_caller ∈ lw_g := gd (tb_6 _ (List.mem_of_getElem? (i := 33) rfl)) rfl
theorem wV_X9_caller : Cond.selects RX9 yX9_caller yX9_caller ∈ lw_g := gd (tb_6 _ (List.mem_of_getElem? (i := 34) rfl)) rfl
theorem wK_X9_caller : Cond.code yX9_caller cX9_caller 3 (some .int) ∈ lw_g := gd (tb_6 _ (List.mem_of_getElem? (i := 35) rfl)) rfl
theorem wKL_X9_329 : Cond.constantLong "Edits13Model" (329 : Nat) (6 : Int64) ∈ lw_g := gd (tb_6 _ (List.mem_of_getElem? (i := 36) rfl)) rfl
theorem wM_L_112 : Cond.methodLink RL 112 yX9_told ∈ lw_g := gd (tb_6 _ (List.mem_of_getElem? (i := 37) rfl)) rfl
theorem wI_X9_told : Cond.instanceMethod yX9_told ∈ lw_g := gd (tb_6 _ (List.mem_of_getElem? (i := 38) rfl)) rfl
theorem wV_X9_told : Cond.selects RX9 yX9_told yX9_told ∈ lw_g := gd (tb_6 _ (List.mem_of_getElem? (i := 39) rfl)) rfl
theorem wK_X9_told : Cond.code yX9_told cX9_told 3 (some .int) ∈ lw_g := gd (tb_6 _ (List.mem_of_getElem? (i := 40) rfl)) rfl
theorem wM_X9_331 : Cond.methodLink RX9 331 yX9_toldOf ∈ lw_g := gd (tb_6 _ (List.mem_of_getElem? (i := 41) rfl)) rfl
theorem wI_X9_toldOf : Cond.instanceMethod yX9_toldOf ∈ lw_g := gd (tb_6 _ (List.mem_of_getElem? (i := 43) rfl)) rfl
theorem wK_X9_toldOf : Cond.code yX9_toldOf cX9_toldOf 3 (some .int) ∈ lw_g := gd (tb_6 _ (List.mem_of_getElem? (i := 44) rfl)) rfl
theorem wM_L_116 : Cond.methodLink RL 116 yX9_below ∈ lw_g := gd (tb_6 _ (List.mem_of_getElem? (i := 45) rfl)) rfl
theorem wI_X9_below : Cond.instanceMethod yX9_below ∈ lw_g := gd (tb_6 _ (List.mem_of_getElem? (i := 46) rfl)) rfl
theorem wV_X9_below : Cond.selects RX9 yX9_below yX9_below ∈ lw_g := gd (tb_6 _ (List.mem_of_getElem? (i := 47) rfl)) rfl
theorem wK_X9_below : Cond.code yX9_below cX9_below 3 (some .int) ∈ lw_g := gd (tb_6 _ (List.mem_of_getElem? (i := 48) rfl)) rfl
theorem wM_L_120 : Cond.methodLink RL 120 yX9_member ∈ lw_g := gd (tb_6 _ (List.mem_of_getElem? (i := 49) rfl)) rfl
theorem wI_X9_member : Cond.instanceMethod yX9_member ∈ lw_g := gd (tb_6 _ (List.mem_of_getElem? (i := 50) rfl)) rfl
theorem wV_X9_member : Cond.selects RX9 yX9_member yX9_member ∈ lw_g := gd (tb_6 _ (List.mem_of_getElem? (i := 51) rfl)) rfl
theorem wK_X9_member : Cond.code yX9_member cX9_member 3 (some .int) ∈ lw_g := gd (tb_6 _ (List.mem_of_getElem? (i := 52) rfl)) rfl
theorem wKL_X9_334 : Cond.constantLong "Edits13Model" (334 : Nat) (5 : Int64) ∈ lw_g := gd (tb_6 _ (List.mem_of_getElem? (i := 53) rfl)) rfl
theorem wM_X9_336 : Cond.methodLink RX9 336 yX9_memberOf ∈ lw_g := gd (tb_6 _ (List.mem_of_getElem? (i := 54) rfl)) rfl
theorem wI_X9_memberOf : Cond.instanceMethod yX9_memberOf ∈ lw_g := gd (tb_6 _ (List.mem_of_getElem? (i := 56) rfl)) rfl
theorem wK_X9_memberOf : Cond.code yX9_memberOf cX9_memberOf 3 (some .int) ∈ lw_g := gd (tb_6 _ (List.mem_of_getElem? (i := 57) rfl)) rfl
theorem wM_L_128 : Cond.methodLink RL 128 yX9_count ∈ lw_g := gd (tb_6 _ (List.mem_of_getElem? (i := 58) rfl)) rfl
theorem wI_X9_count : Cond.instanceMethod yX9_count ∈ lw_g := gd (tb_6 _ (List.mem_of_getElem? (i := 59) rfl)) rfl
theorem wV_X9_count : Cond.selects RX9 yX9_count yX9_count ∈ lw_g := gd (tb_6 _ (List.mem_of_getElem? (i := 60) rfl)) rfl
theorem wK_X9_count : Cond.code yX9_count cX9_count 4 (some .int) ∈ lw_g := gd (tb_6 _ (List.mem_of_getElem? (i := 61) rfl)) rfl
theorem wM_L_132 : Cond.methodLink RL 132 yX9_digest ∈ lw_g := gd (tb_6 _ (List.mem_of_getElem? (i := 62) rfl)) rfl
theorem wI_X9_digest : Cond.instanceMethod yX9_digest ∈ lw_g := gd (tb_6 _ (List.mem_of_getElem? (i := 63) rfl)) rfl
theorem wV_X9_digest : Cond.selects RX9 yX9_digest yX9_digest ∈ lw_g := gd (tb_6 _ (List.mem_of_getElem? (i := 64) rfl)) rfl
theorem wK_X9_digest : Cond.code yX9_digest cX9_digest 5 (some .long) ∈ lw_g := gd (tb_6 _ (List.mem_of_getElem? (i := 65) rfl)) rfl
theorem wKL_X9_339 : Cond.constantLong "Edits13Model" (339 : Nat) (17 : Int64) ∈ lw_g := gd (tb_6 _ (List.mem_of_getElem? (i := 66) rfl)) rfl
theorem wKL_X9_341 : Cond.constantLong "Edits13Model" (341 : Nat) (31 : Int64) ∈ lw_g := gd (tb_6 _ (List.mem_of_getElem? (i := 67) rfl)) rfl
theorem wKL_L_35 : Cond.constantLong "Edits13Law" (35 : Nat) (4294967295 : Int64) ∈ lw_g := gd (tb_6 _ (List.mem_of_getElem? (i := 68) rfl)) rfl
theorem wV_X8_carryOut : Cond.selects RX8 yX8_carryOut yX8_carryOut ∈ lw_g := gd (List.mem_append_left _ (List.mem_of_getElem? (i := 0) rfl)) rfl
theorem wV_X7_findOver : Cond.selects RX7 yX7_findOver yX7_findOver ∈ lw_g := gd (List.mem_append_left _ (List.mem_of_getElem? (i := 1) rfl)) rfl
theorem wV_X7_overDirectly : Cond.selects RX7 yX7_overDirectly yX7_overDirectly ∈ lw_g := gd (List.mem_append_left _ (List.mem_of_getElem? (i := 2) rfl)) rfl
theorem wV_X6_leastFree : Cond.selects RX6 yX6_leastFree yX6_leastFree ∈ lw_g := gd (List.mem_append_left _ (List.mem_of_getElem? (i := 3) rfl)) rfl
theorem wV_X7_hasFace : Cond.selects RX7 yX7_hasFace yX7_hasFace ∈ lw_g := gd (List.mem_append_left _ (List.mem_of_getElem? (i := 4) rfl)) rfl
theorem wV_X2_areFieldMarks : Cond.selects RX2 yX2_areFieldMarks yX2_areFieldMarks ∈ lw_g := gd (List.mem_append_left _ (List.mem_of_getElem? (i := 5) rfl)) rfl
theorem wV_X8_redo : Cond.selects RX8 yX8_redo yX8_redo ∈ lw_g := gd (List.mem_append_left _ (List.mem_of_getElem? (i := 6) rfl)) rfl
theorem wV_X8_keepCaller : Cond.selects RX8 yX8_keepCaller yX8_keepCaller ∈ lw_g := gd (List.mem_append_left _ (List.mem_of_getElem? (i := 7) rfl)) rfl
theorem wV_X4_faultOfGet : Cond.selects RX4 yX4_faultOfGet yX4_faultOfGet ∈ lw_g := gd (List.mem_append_left _ (List.mem_of_getElem? (i := 8) rfl)) rfl
theorem wV_X7_walk : Cond.selects RX7 yX7_walk yX7_walk ∈ lw_g := gd (List.mem_append_left _ (List.mem_of_getElem? (i := 9) rfl)) rfl
theorem wV_X4_faultOfCall : Cond.selects RX4 yX4_faultOfCall yX4_faultOfCall ∈ lw_g := gd (List.mem_append_left _ (List.mem_of_getElem? (i := 10) rfl)) rfl
theorem wV_X4_findFitting : Cond.selects RX4 yX4_findFitting yX4_findFitting ∈ lw_g := gd (List.mem_append_left _ (List.mem_of_getElem? (i := 11) rfl)) rfl
theorem wV_X4_fits : Cond.selects RX4 yX4_fits yX4_fits ∈ lw_g := gd (List.mem_append_left _ (List.mem_of_getElem? (i := 12) rfl)) rfl
theorem wV_X4_narrowest : Cond.selects RX4 yX4_narrowest yX4_narrowest ∈ lw_g := gd (List.mem_append_left _ (List.mem_of_getElem? (i := 13) rfl)) rfl
theorem wV_X4_goesIntoAll : Cond.selects RX4 yX4_goesIntoAll yX4_goesIntoAll ∈ lw_g := gd (List.mem_append_left _ (List.mem_of_getElem? (i := 14) rfl)) rfl
theorem wV_X8_callerAt : Cond.selects RX8 yX8_callerAt yX8_callerAt ∈ lw_g := gd (List.mem_append_left _ (List.mem_of_getElem? (i := 15) rfl)) rfl
theorem wV_X8_tellMeeting : Cond.selects RX8 yX8_tellMeeting yX8_tellMeeting ∈ lw_g := gd (List.mem_append_left _ (List.mem_of_getElem? (i := 16) rfl)) rfl
theorem wV_X2_isBroken : Cond.selects RX2 yX2_isBroken yX2_isBroken ∈ lw_g := gd (List.mem_append_left _ (List.mem_of_getElem? (i := 17) rfl)) rfl
theorem wV_X5_failureOfGet : Cond.selects RX5 yX5_failureOfGet yX5_failureOfGet ∈ lw_g := gd (List.mem_append_left _ (List.mem_of_getElem? (i := 18) rfl)) rfl
theorem wV_X5_failureOfFound : Cond.selects RX5 yX5_failureOfFound yX5_failureOfFound ∈ lw_g := gd (List.mem_append_left _ (List.mem_of_getElem? (i := 19) rfl)) rfl
theorem wV_X5_failureOfObject : Cond.selects RX5 yX5_failureOfObject yX5_failureOfObject ∈ lw_g := gd (List.mem_append_left _ (List.mem_of_getElem? (i := 20) rfl)) rfl
theorem wV_X5_failureOfCall : Cond.selects RX5 yX5_failureOfCall yX5_failureOfCall ∈ lw_g := gd (List.mem_append_left _ (List.mem_of_getElem? (i := 21) rfl)) rfl
theorem wV_X2_selectOfFaces : Cond.selects RX2 yX2_selectOfFaces yX2_selectOfFaces ∈ lw_g := gd (List.mem_append_left _ (List.mem_of_getElem? (i := 22) rfl)) rfl
theorem wV_X2_isLowest : Cond.selects RX2 yX2_isLowest yX2_isLowest ∈ lw_g := gd (List.mem_append_left _ (List.mem_of_getElem? (i := 23) rfl)) rfl
theorem wV_X5_failureOfNew : Cond.selects RX5 yX5_failureOfNew yX5_failureOfNew ∈ lw_g := gd (List.mem_append_left _ (List.mem_of_getElem? (i := 24) rfl)) rfl
theorem wV_X8_firstChange : Cond.selects RX8 yX8_firstChange yX8_firstChange ∈ lw_g := gd (List.mem_append_left _ (List.mem_of_getElem? (i := 25) rfl)) rfl
theorem wV_X9_edit : Cond.selects RX9 yX9_edit yX9_edit ∈ lw_g := gd (List.mem_append_left _ (List.mem_of_getElem? (i := 26) rfl)) rfl
theorem wV_X9_refusal : Cond.selects RX9 yX9_refusal yX9_refusal ∈ lw_g := gd (List.mem_append_left _ (List.mem_of_getElem? (i := 27) rfl)) rfl
theorem wV_X9_isClass : Cond.selects RX9 yX9_isClass yX9_isClass ∈ lw_g := gd (List.mem_append_left _ (List.mem_of_getElem? (i := 28) rfl)) rfl
theorem wV_X9_isType : Cond.selects RX9 yX9_isType yX9_isType ∈ lw_g := gd (List.mem_append_left _ (List.mem_of_getElem? (i := 29) rfl)) rfl
theorem wV_X9_isBelow : Cond.selects RX9 yX9_isBelow yX9_isBelow ∈ lw_g := gd (List.mem_append_left _ (List.mem_of_getElem? (i := 30) rfl)) rfl
theorem wV_X9_ups : Cond.selects RX9 yX9_ups yX9_ups ∈ lw_g := gd (List.mem_append_left _ (List.mem_of_getElem? (i := 31) rfl)) rfl
theorem wV_X9_refusalOfFace : Cond.selects RX9 yX9_refusalOfFace yX9_refusalOfFace ∈ lw_g := gd (List.mem_append_left _ (List.mem_of_getElem? (i := 32) rfl)) rfl
theorem wV_X9_ownOf : Cond.selects RX9 yX9_ownOf yX9_ownOf ∈ lw_g := gd (List.mem_append_left _ (List.mem_of_getElem? (i := 33) rfl)) rfl
theorem wV_X9_freeMember : Cond.selects RX9 yX9_freeMember yX9_freeMember ∈ lw_g := gd (List.mem_append_left _ (List.mem_of_getElem? (i := 34) rfl)) rfl
theorem wV_X9_areParameters : Cond.selects RX9 yX9_areParameters yX9_areParameters ∈ lw_g := gd (List.mem_append_left _ (List.mem_of_getElem? (i := 35) rfl)) rfl
theorem wV_X9_refusalOfMember : Cond.selects RX9 yX9_refusalOfMember yX9_refusalOfMember ∈ lw_g := gd (List.mem_append_left _ (List.mem_of_getElem? (i := 36) rfl)) rfl
theorem wV_X9_isHere : Cond.selects RX9 yX9_isHere yX9_isHere ∈ lw_g := gd (List.mem_append_left _ (List.mem_of_getElem? (i := 37) rfl)) rfl
theorem wV_X9_likeIn : Cond.selects RX9 yX9_likeIn yX9_likeIn ∈ lw_g := gd (List.mem_append_left _ (List.mem_of_getElem? (i := 38) rfl)) rfl
theorem wV_X9_does : Cond.selects RX9 yX9_does yX9_does ∈ lw_g := gd (List.mem_append_left _ (List.mem_of_getElem? (i := 39) rfl)) rfl
theorem wV_X9_newMember : Cond.selects RX9 yX9_newMember yX9_newMember ∈ lw_g := gd (List.mem_append_left _ (List.mem_of_getElem? (i := 40) rfl)) rfl
theorem wV_X9_doesMember : Cond.selects RX9 yX9_doesMember yX9_doesMember ∈ lw_g := gd (List.mem_append_left _ (List.mem_of_getElem? (i := 41) rfl)) rfl
theorem wV_X9_nothing : Cond.selects RX9 yX9_nothing yX9_nothing ∈ lw_g := gd (List.mem_append_left _ (List.mem_of_getElem? (i := 42) rfl)) rfl
theorem wV_X9_doAgain : Cond.selects RX9 yX9_doAgain yX9_doAgain ∈ lw_g := gd (List.mem_append_left _ (List.mem_of_getElem? (i := 43) rfl)) rfl
theorem wV_X9_select : Cond.selects RX9 yX9_select yX9_select ∈ lw_g := gd (List.mem_append_left _ (List.mem_of_getElem? (i := 44) rfl)) rfl
theorem wV_X9_chainOf : Cond.selects RX9 yX9_chainOf yX9_chainOf ∈ lw_g := gd (List.mem_append_left _ (List.mem_of_getElem? (i := 45) rfl)) rfl
theorem wV_X9_newCaller : Cond.selects RX9 yX9_newCaller yX9_newCaller ∈ lw_g := gd (List.mem_append_left _ (List.mem_of_getElem? (i := 46) rfl)) rfl
theorem wV_X9_making : Cond.selects RX9 yX9_making yX9_making ∈ lw_g := gd (List.mem_append_left _ (List.mem_of_getElem? (i := 47) rfl)) rfl
theorem wV_X9_lookForField : Cond.selects RX9 yX9_lookForField yX9_lookForField ∈ lw_g := gd (List.mem_append_left _ (List.mem_of_getElem? (i := 48) rfl)) rfl
theorem wV_X9_facesOf : Cond.selects RX9 yX9_facesOf yX9_facesOf ∈ lw_g := gd (List.mem_append_left _ (List.mem_of_getElem? (i := 49) rfl)) rfl
theorem wV_X9_faceRow : Cond.selects RX9 yX9_faceRow yX9_faceRow ∈ lw_g := gd (List.mem_append_left _ (List.mem_of_getElem? (i := 50) rfl)) rfl
theorem wV_X9_makingCall : Cond.selects RX9 yX9_makingCall yX9_makingCall ∈ lw_g := gd (List.mem_append_left _ (List.mem_of_getElem? (i := 51) rfl)) rfl
theorem wV_X9_isUnder : Cond.selects RX9 yX9_isUnder yX9_isUnder ∈ lw_g := gd (List.mem_append_left _ (List.mem_of_getElem? (i := 52) rfl)) rfl
theorem wV_X9_lookForMethod : Cond.selects RX9 yX9_lookForMethod yX9_lookForMethod ∈ lw_g := gd (List.mem_append_left _ (List.mem_of_getElem? (i := 53) rfl)) rfl
theorem wV_X9_isCaller : Cond.selects RX9 yX9_isCaller yX9_isCaller ∈ lw_g := gd (List.mem_append_left _ (List.mem_of_getElem? (i := 54) rfl)) rfl
theorem wV_X9_answer : Cond.selects RX9 yX9_answer yX9_answer ∈ lw_g := gd (List.mem_append_left _ (List.mem_of_getElem? (i := 55) rfl)) rfl
theorem wV_X9_meets : Cond.selects RX9 yX9_meets yX9_meets ∈ lw_g := gd (List.mem_append_left _ (List.mem_of_getElem? (i := 56) rfl)) rfl
theorem wV_X9_isGone : Cond.selects RX9 yX9_isGone yX9_isGone ∈ lw_g := gd (List.mem_append_left _ (List.mem_of_getElem? (i := 57) rfl)) rfl
theorem wV_X9_readFails : Cond.selects RX9 yX9_readFails yX9_readFails ∈ lw_g := gd (List.mem_append_left _ (List.mem_of_getElem? (i := 58) rfl)) rfl
theorem wV_X9_isFinalAbove : Cond.selects RX9 yX9_isFinalAbove yX9_isFinalAbove ∈ lw_g := gd (List.mem_append_left _ (List.mem_of_getElem? (i := 59) rfl)) rfl
theorem wV_X9_meetsMethod : Cond.selects RX9 yX9_meetsMethod yX9_meetsMethod ∈ lw_g := gd (List.mem_append_left _ (List.mem_of_getElem? (i := 60) rfl)) rfl
theorem wV_X9_meetsField : Cond.selects RX9 yX9_meetsField yX9_meetsField ∈ lw_g := gd (List.mem_append_left _ (List.mem_of_getElem? (i := 61) rfl)) rfl
theorem wV_X9_toldOf : Cond.selects RX9 yX9_toldOf yX9_toldOf ∈ lw_g := gd (List.mem_append_left _ (List.mem_of_getElem? (i := 62) rfl)) rfl
theorem wV_X9_memberOf : Cond.selects RX9 yX9_memberOf yX9_memberOf ∈ lw_g := gd (List.mem_append_left _ (List.mem_of_getElem? (i := 63) rfl)) rfl
theorem inX0 : ∀ w ∈ wsX00, w ∈ lw_g := by decide +kernel
theorem inX1 : ∀ w ∈ wsX10, w ∈ lw_g := by decide +kernel
theorem inX2 : ∀ w ∈ wsX20, w ∈ lw_g := by decide +kernel
theorem inX4 : ∀ w ∈ wsX40, w ∈ lw_g := by decide +kernel
theorem inX5 : ∀ w ∈ wsX50, w ∈ lw_g := by decide +kernel
theorem inX6 : ∀ w ∈ wsX60, w ∈ lw_g := by decide +kernel
theorem inX7 : ∀ w ∈ wsX70, w ∈ lw_g := by decide +kernel
theorem inX8 : ∀ w ∈ wsX80, w ∈ lw_g := by decide +kernel
theorem inX9 : ∀ w ∈ wsX90, w ∈ lw_g := by decide +kernel
