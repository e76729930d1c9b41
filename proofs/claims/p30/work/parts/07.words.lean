theorem tin1 : ∀ w ∈ tables_1_1, w ∈ lw_tbl := fun w h => List.mem_append_right _ (List.mem_append_left _ h)
theorem tin2 : ∀ w ∈ tables_1_2, w ∈ lw_tbl := fun w h => List.mem_append_right _ (List.mem_append_right _ (List.mem_append_left _ h))
theorem tin3 : ∀ w ∈ tables_1_3, w ∈ lw_tbl := fun w h => List.mem_append_right _ (List.mem_append_right _ (List.mem_append_right _ h))
theorem tin0 : ∀ w ∈ k2_sels lw_privs, w ∈ lw_tbl := fun w h => List.mem_append_left _ h
theorem kc_L_11 : Cond.classLink RL 11 "BacklotPlanner" ∈ lw_tbl := tin1 _ (List.mem_of_getElem? (i := 15) (by decide +kernel))
theorem kI_X4 : Cond.instantiable RX4 11 ∈ lw_tbl := tin1 _ (List.mem_of_getElem? (i := 16) (by decide +kernel))
theorem km_L_179 : Cond.methodLink RL 179 yX4_init ∈ lw_tbl := tin1 _ (List.mem_of_getElem? (i := 17) (by decide +kernel))
theorem km_X4_1 : Cond.methodLink RX4 1 objectInit ∈ lw_tbl := tin1 _ (List.mem_of_getElem? (i := 20) (by decide +kernel))
theorem kc_X4_9 : Cond.classLink RX4 9 "BacklotPlanner$Scene" ∈ lw_tbl := tin1 _ (List.mem_of_getElem? (i := 23) (by decide +kernel))
theorem ko_1_24 : Jvm.Cond.arrayOver (Jvm.ClassFile.FieldType.object "BacklotPlanner$Scene") ∈ lw_tbl := tin1 _ (List.mem_of_getElem? (i := 24) (by decide +kernel))
theorem kc_X4_18 : Cond.classLink RX4 18 "BacklotPlanner$Permit" ∈ lw_tbl := tin1 _ (List.mem_of_getElem? (i := 25) (by decide +kernel))
theorem ko_1_26 : Jvm.Cond.arrayOver (Jvm.ClassFile.FieldType.object "BacklotPlanner$Permit") ∈ lw_tbl := tin1 _ (List.mem_of_getElem? (i := 26) (by decide +kernel))
theorem kc_X4_28 : Cond.classLink RX4 28 "BacklotPlanner$Studio" ∈ lw_tbl := tin1 _ (List.mem_of_getElem? (i := 27) (by decide +kernel))
theorem kI_X3 : Cond.instantiable RX3 3 ∈ lw_tbl := tin1 _ (List.mem_of_getElem? (i := 28) (by decide +kernel))
theorem kn_X4_30 : Cond.methodLinkNest RX4 30 yX3_init RX4 ∈ lw_tbl := tin1 _ (List.mem_of_getElem? (i := 29) (by decide +kernel))
theorem km_X3_3 : Cond.methodLink RX3 3 objectInit ∈ lw_tbl := tin1 _ (List.mem_of_getElem? (i := 32) (by decide +kernel))
theorem kc_X3_9 : Cond.classLink RX3 9 "[[I" ∈ lw_tbl := tin1 _ (List.mem_of_getElem? (i := 33) (by decide +kernel))
theorem ko_1_34 : Jvm.Cond.arrayOver (Jvm.ClassFile.FieldType.array Jvm.ClassFile.FieldType.int) ∈ lw_tbl := tin1 _ (List.mem_of_getElem? (i := 34) (by decide +kernel))
theorem kf_X3_11 : Cond.fieldLink RX3 11 RX3 "stock" "[[I" ∈ lw_tbl := tin1 _ (List.mem_of_getElem? (i := 35) (by decide +kernel))
theorem kf_X4_173 : Cond.fieldLink RX4 173 RX3 "stock" "[[I" ∈ lw_tbl := tin1 _ (List.mem_of_getElem? (i := 36) (by decide +kernel))
theorem kf_X3_16 : Cond.fieldLink RX3 16 RX3 "beards" "[I" ∈ lw_tbl := tin1 _ (List.mem_of_getElem? (i := 37) (by decide +kernel))
theorem kf_X4_241 : Cond.fieldLink RX4 241 RX3 "beards" "[I" ∈ lw_tbl := tin1 _ (List.mem_of_getElem? (i := 38) (by decide +kernel))
theorem kf_X3_20 : Cond.fieldLink RX3 20 RX3 "lastSet" "I" ∈ lw_tbl := tin1 _ (List.mem_of_getElem? (i := 39) (by decide +kernel))
theorem ka_int : Cond.arrayClass .int ∈ lw_tbl := tin1 _ (List.mem_of_getElem? (i := 47) (by decide +kernel))
theorem kc_X4_38 : Cond.classLink RX4 38 "BacklotPlanner$Orders" ∈ lw_tbl := tin1 _ (List.mem_of_getElem? (i := 48) (by decide +kernel))
theorem kI_X0 : Cond.instantiable RX0 3 ∈ lw_tbl := tin1 _ (List.mem_of_getElem? (i := 49) (by decide +kernel))
theorem kn_X4_40 : Cond.methodLinkNest RX4 40 yX0_init RX4 ∈ lw_tbl := tin1 _ (List.mem_of_getElem? (i := 50) (by decide +kernel))
theorem km_X0_3 : Cond.methodLink RX0 3 objectInit ∈ lw_tbl := tin1 _ (List.mem_of_getElem? (i := 53) (by decide +kernel))
theorem kc_X0_15 : Cond.classLink RX0 15 "BacklotPlanner$Scene" ∈ lw_tbl := tin1 _ (List.mem_of_getElem? (i := 54) (by decide +kernel))
theorem kf_X0_9 : Cond.fieldLink RX0 9 RX0 "days" "[I" ∈ lw_tbl := tin1 _ (List.mem_of_getElem? (i := 55) (by decide +kernel))
theorem kf_X0_17 : Cond.fieldLink RX0 17 RX0 "scenes" "[LBacklotPlanner$Scene;" ∈ lw_tbl := tin1 _ (List.mem_of_getElem? (i := 56) (by decide +kernel))
theorem kf_X0_21 : Cond.fieldLink RX0 21 RX0 "count" "I" ∈ lw_tbl := tin1 _ (List.mem_of_getElem? (i := 57) (by decide +kernel))
theorem kf_X4_215 : Cond.fieldLink RX4 215 RX0 "count" "I" ∈ lw_tbl := tin1 _ (List.mem_of_getElem? (i := 58) (by decide +kernel))
theorem kf_X4_11 : Cond.fieldLink RX4 11 RX4 "told" "[LBacklotPlanner$Scene;" ∈ lw_tbl := tin1 _ (List.mem_of_getElem? (i := 66) (by decide +kernel))
theorem kf_X4_15 : Cond.fieldLink RX4 15 RX4 "plan" "[LBacklotPlanner$Scene;" ∈ lw_tbl := tin1 _ (List.mem_of_getElem? (i := 67) (by decide +kernel))
theorem kf_X4_20 : Cond.fieldLink RX4 20 RX4 "permits" "[LBacklotPlanner$Permit;" ∈ lw_tbl := tin1 _ (List.mem_of_getElem? (i := 68) (by decide +kernel))
theorem kf_X4_24 : Cond.fieldLink RX4 24 RX4 "awayDays" "[I" ∈ lw_tbl := tin1 _ (List.mem_of_getElem? (i := 69) (by decide +kernel))
theorem kf_X4_31 : Cond.fieldLink RX4 31 RX4 "studio" "LBacklotPlanner$Studio;" ∈ lw_tbl := tin1 _ (List.mem_of_getElem? (i := 70) (by decide +kernel))
theorem kf_X4_35 : Cond.fieldLink RX4 35 RX4 "trial" "LBacklotPlanner$Studio;" ∈ lw_tbl := tin1 _ (List.mem_of_getElem? (i := 71) (by decide +kernel))
theorem kf_X4_41 : Cond.fieldLink RX4 41 RX4 "orders" "LBacklotPlanner$Orders;" ∈ lw_tbl := tin1 _ (List.mem_of_getElem? (i := 72) (by decide +kernel))
theorem kf_X4_45 : Cond.fieldLink RX4 45 RX4 "toldCount" "I" ∈ lw_tbl := tin1 _ (List.mem_of_getElem? (i := 73) (by decide +kernel))
theorem kf_X4_49 : Cond.fieldLink RX4 49 RX4 "permitCount" "I" ∈ lw_tbl := tin1 _ (List.mem_of_getElem? (i := 74) (by decide +kernel))
theorem kf_X4_52 : Cond.fieldLink RX4 52 RX4 "now" "I" ∈ lw_tbl := tin1 _ (List.mem_of_getElem? (i := 75) (by decide +kernel))
theorem kf_X4_55 : Cond.fieldLink RX4 55 RX4 "paid" "I" ∈ lw_tbl := tin1 _ (List.mem_of_getElem? (i := 76) (by decide +kernel))
theorem km_L_159 : Cond.methodLink RL 159 yX4_clear ∈ lw_tbl := tin1 _ (List.mem_of_getElem? (i := 100) (by decide +kernel))
theorem km_L_140 : Cond.methodLink RL 140 yX4_mend ∈ lw_tbl := tin1 _ (List.mem_of_getElem? (i := 104) (by decide +kernel))
theorem km_X4_199 : Cond.methodLink RX4 199 yX4_isRefusedOn ∈ lw_tbl := tin1 _ (List.mem_of_getElem? (i := 108) (by decide +kernel))
theorem km_X4_271 : Cond.methodLink RX4 271 yX4_isFree ∈ lw_tbl := tin1 _ (List.mem_of_getElem? (i := 112) (by decide +kernel))
theorem km_X4_183 : Cond.methodLink RX4 183 yX4_allows ∈ lw_tbl := tin1 _ (List.mem_of_getElem? (i := 116) (by decide +kernel))
theorem km_X4_274 : Cond.methodLink RX4 274 yX4_isPermitted ∈ lw_tbl := tin1 _ (List.mem_of_getElem? (i := 120) (by decide +kernel))
theorem km_X4_283 : Cond.methodLink RX4 283 yX1_covers ∈ lw_tbl := tin1 _ (List.mem_of_getElem? (i := 124) (by decide +kernel))
theorem km_X4_277 : Cond.methodLink RX4 277 yX4_isCastThere ∈ lw_tbl := tin1 _ (List.mem_of_getElem? (i := 128) (by decide +kernel))
theorem km_X4_163 : Cond.methodLink RX4 163 yX4_isAwayOn ∈ lw_tbl := tin1 _ (List.mem_of_getElem? (i := 132) (by decide +kernel))
theorem km_X4_203 : Cond.methodLink RX4 203 yX4_mendingDay ∈ lw_tbl := tin1 _ (List.mem_of_getElem? (i := 136) (by decide +kernel))
theorem km_X4_265 : Cond.methodLink RX4 265 yX4_wouldMend ∈ lw_tbl := tin1 _ (List.mem_of_getElem? (i := 140) (by decide +kernel))
theorem km_X4_268 : Cond.methodLink RX4 268 yX4_costAfterSwap ∈ lw_tbl := tin1 _ (List.mem_of_getElem? (i := 144) (by decide +kernel))
theorem km_X4_133 : Cond.methodLink RX4 133 yX4_swapDays ∈ lw_tbl := tin1 _ (List.mem_of_getElem? (i := 148) (by decide +kernel))
theorem km_X4_257 : Cond.methodLink RX4 257 yX4_exchange ∈ lw_tbl := tin1 _ (List.mem_of_getElem? (i := 152) (by decide +kernel))
theorem km_X4_137 : Cond.methodLink RX4 137 yX4_planCost ∈ lw_tbl := tin1 _ (List.mem_of_getElem? (i := 155) (by decide +kernel))
theorem km_X4_261 : Cond.methodLink RX4 261 yX3_copy ∈ lw_tbl := tin1 _ (List.mem_of_getElem? (i := 159) (by decide +kernel))
theorem km_X3_24 : Cond.methodLink RX3 24 arraycopyName ∈ lw_tbl := tin1 _ (List.mem_of_getElem? (i := 163) (by decide +kernel))
theorem km_X4_196 : Cond.methodLink RX4 196 yX3_growBeards ∈ lw_tbl := tin1 _ (List.mem_of_getElem? (i := 166) (by decide +kernel))
theorem km_X3_30 : Cond.methodLink RX3 30 yJ9_min_7cf53 ∈ lw_tbl := tin1 _ (List.mem_of_getElem? (i := 170) (by decide +kernel))
theorem km_X4_187 : Cond.methodLink RX4 187 yX3_film ∈ lw_tbl := tin1 _ (List.mem_of_getElem? (i := 173) (by decide +kernel))
theorem km_X3_42 : Cond.methodLink RX3 42 yX3_dress ∈ lw_tbl := tin1 _ (List.mem_of_getElem? (i := 177) (by decide +kernel))
theorem km_X3_51 : Cond.methodLink RX3 51 yX3_serve ∈ lw_tbl := tin1 _ (List.mem_of_getElem? (i := 181) (by decide +kernel))
theorem km_L_145 : Cond.methodLink RL 145 yX4_better ∈ lw_tbl := tin1 _ (List.mem_of_getElem? (i := 185) (by decide +kernel))
theorem kk_X4_206 : Cond.constant RX4 206 (1000000 : Int32) ∈ lw_tbl := tin1 _ (List.mem_of_getElem? (i := 189) (by decide +kernel))
theorem km_X4_207 : Cond.methodLink RX4 207 yX4_makeBestSwap ∈ lw_tbl := tin1 _ (List.mem_of_getElem? (i := 190) (by decide +kernel))
theorem km_L_111 : Cond.methodLink RL 111 yX4_cost ∈ lw_tbl := tin1 _ (List.mem_of_getElem? (i := 194) (by decide +kernel))
theorem km_L_180 : Cond.methodLink RL 180 yL_at ∈ lw_tbl := tin1 _ (List.mem_of_getElem? (i := 198) (by decide +kernel))
theorem kk_L_7 : Cond.constant RL 7 (905433545 : Int32) ∈ lw_tbl := tin1 _ (List.mem_of_getElem? (i := 201) (by decide +kernel))
theorem kk_L_8 : Cond.constant RL 8 (1523114935 : Int32) ∈ lw_tbl := tin1 _ (List.mem_of_getElem? (i := 202) (by decide +kernel))
theorem km_L_143 : Cond.methodLink RL 143 yL_least ∈ lw_tbl := tin1 _ (List.mem_of_getElem? (i := 203) (by decide +kernel))
theorem kc_L_19 : Cond.classLink RL 19 "java/lang/IllegalStateException" ∈ lw_tbl := tin1 _ (List.mem_of_getElem? (i := 206) (by decide +kernel))
theorem km_L_60 : Cond.methodLink RL 60 yX4_least ∈ lw_tbl := tin1 _ (List.mem_of_getElem? (i := 207) (by decide +kernel))
theorem km_X4_211 : Cond.methodLink RX4 211 yX0_note ∈ lw_tbl := tin1 _ (List.mem_of_getElem? (i := 211) (by decide +kernel))
theorem kc_X4_69 : Cond.classLink RX4 69 "java/lang/IllegalStateException" ∈ lw_tbl := tin1 _ (List.mem_of_getElem? (i := 215) (by decide +kernel))
theorem ka_byte : Cond.arrayClass .byte ∈ lw_tbl := tin2 _ (List.mem_of_getElem? (i := 42) (by decide +kernel))
theorem km_X4_220 : Cond.methodLink RX4 220 yX0_countOrders ∈ lw_tbl := tin2 _ (List.mem_of_getElem? (i := 43) (by decide +kernel))
theorem km_X4_223 : Cond.methodLink RX4 223 yX0_lay ∈ lw_tbl := tin2 _ (List.mem_of_getElem? (i := 47) (by decide +kernel))
theorem km_X0_29 : Cond.methodLink RX0 29 yX0_restore ∈ lw_tbl := tin2 _ (List.mem_of_getElem? (i := 51) (by decide +kernel))
theorem kn_X0_25 : Cond.methodLinkNest RX0 25 yX4_put RX4 ∈ lw_tbl := tin2 _ (List.mem_of_getElem? (i := 55) (by decide +kernel))
theorem km_X0_33 : Cond.methodLink RX0 33 yJ9_min_7cf53 ∈ lw_tbl := tin2 _ (List.mem_of_getElem? (i := 58) (by decide +kernel))
theorem kn_X0_39 : Cond.methodLinkNest RX0 39 yX4_exchange RX4 ∈ lw_tbl := tin2 _ (List.mem_of_getElem? (i := 59) (by decide +kernel))
theorem km_X4_227 : Cond.methodLink RX4 227 yJ9_min_7cf53 ∈ lw_tbl := tin2 _ (List.mem_of_getElem? (i := 60) (by decide +kernel))
theorem km_X4_233 : Cond.methodLink RX4 233 yX0_restore ∈ lw_tbl := tin2 _ (List.mem_of_getElem? (i := 61) (by decide +kernel))
theorem kk_L_21 : Cond.constant RL 21 (-1000003 : Int32) ∈ lw_tbl := tin2 _ (List.mem_of_getElem? (i := 62) (by decide +kernel))
theorem km_L_188 : Cond.methodLink RL 188 yL_isSo ∈ lw_tbl := tin2 _ (List.mem_of_getElem? (i := 63) (by decide +kernel))
theorem km_L_85 : Cond.methodLink RL 85 yL_sceneOn ∈ lw_tbl := tin2 _ (List.mem_of_getElem? (i := 66) (by decide +kernel))
theorem kc_L_16 : Cond.classLink RL 16 "java/lang/IllegalArgumentException" ∈ lw_tbl := tin2 _ (List.mem_of_getElem? (i := 69) (by decide +kernel))
theorem km_L_69 : Cond.methodLink RL 69 yX4_sceneOn ∈ lw_tbl := tin2 _ (List.mem_of_getElem? (i := 70) (by decide +kernel))
theorem km_X4_160 : Cond.methodLink RX4 160 yX4_requireDay ∈ lw_tbl := tin2 _ (List.mem_of_getElem? (i := 74) (by decide +kernel))
theorem kc_X4_58 : Cond.classLink RX4 58 "java/lang/IllegalArgumentException" ∈ lw_tbl := tin2 _ (List.mem_of_getElem? (i := 77) (by decide +kernel))
theorem kk_L_18 : Cond.constant RL 18 (-1000002 : Int32) ∈ lw_tbl := tin2 _ (List.mem_of_getElem? (i := 93) (by decide +kernel))
theorem km_L_90 : Cond.methodLink RL 90 yL_stateOf ∈ lw_tbl := tin2 _ (List.mem_of_getElem? (i := 94) (by decide +kernel))
theorem kc_L_26 : Cond.classLink RL 26 "java/lang/IndexOutOfBoundsException" ∈ lw_tbl := tin2 _ (List.mem_of_getElem? (i := 97) (by decide +kernel))
theorem km_L_63 : Cond.methodLink RL 63 yX4_stateOf ∈ lw_tbl := tin2 _ (List.mem_of_getElem? (i := 98) (by decide +kernel))
theorem km_X4_80 : Cond.methodLink RX4 80 yX4_sceneNumbered ∈ lw_tbl := tin2 _ (List.mem_of_getElem? (i := 102) (by decide +kernel))
theorem kc_X4_242 : Cond.classLink RX4 242 "java/lang/IndexOutOfBoundsException" ∈ lw_tbl := tin2 _ (List.mem_of_getElem? (i := 106) (by decide +kernel))
theorem kk_L_28 : Cond.constant RL 28 (-1000001 : Int32) ∈ lw_tbl := tin2 _ (List.mem_of_getElem? (i := 122) (by decide +kernel))
theorem km_L_92 : Cond.methodLink RL 92 yL_dayOf ∈ lw_tbl := tin2 _ (List.mem_of_getElem? (i := 123) (by decide +kernel))
theorem km_L_66 : Cond.methodLink RL 66 yX4_dayOf ∈ lw_tbl := tin2 _ (List.mem_of_getElem? (i := 126) (by decide +kernel))
theorem km_X4_120 : Cond.methodLink RX4 120 yX4_plannedDay ∈ lw_tbl := tin2 _ (List.mem_of_getElem? (i := 130) (by decide +kernel))
theorem km_L_94 : Cond.methodLink RL 94 yL_isAllowed ∈ lw_tbl := tin2 _ (List.mem_of_getElem? (i := 134) (by decide +kernel))
theorem km_L_72 : Cond.methodLink RL 72 yX4_isAllowed ∈ lw_tbl := tin2 _ (List.mem_of_getElem? (i := 137) (by decide +kernel))
theorem km_L_97 : Cond.methodLink RL 97 yL_ahead ∈ lw_tbl := tin2 _ (List.mem_of_getElem? (i := 141) (by decide +kernel))
theorem km_L_76 : Cond.methodLink RL 76 yX4_ahead ∈ lw_tbl := tin2 _ (List.mem_of_getElem? (i := 144) (by decide +kernel))
theorem km_X4_100 : Cond.methodLink RX4 100 yX4_requireProp ∈ lw_tbl := tin2 _ (List.mem_of_getElem? (i := 148) (by decide +kernel))
theorem km_X4_236 : Cond.methodLink RX4 236 yX2_ages ∈ lw_tbl := tin2 _ (List.mem_of_getElem? (i := 152) (by decide +kernel))
theorem km_L_99 : Cond.methodLink RL 99 yX4_refused ∈ lw_tbl := tin2 _ (List.mem_of_getElem? (i := 156) (by decide +kernel))
theorem km_X4_157 : Cond.methodLink RX4 157 yX4_countRefused ∈ lw_tbl := tin2 _ (List.mem_of_getElem? (i := 160) (by decide +kernel))
theorem km_L_102 : Cond.methodLink RL 102 yX4_today ∈ lw_tbl := tin2 _ (List.mem_of_getElem? (i := 164) (by decide +kernel))
theorem km_L_105 : Cond.methodLink RL 105 yX4_spent ∈ lw_tbl := tin2 _ (List.mem_of_getElem? (i := 168) (by decide +kernel))
theorem km_L_108 : Cond.methodLink RL 108 yX4_scenes ∈ lw_tbl := tin2 _ (List.mem_of_getElem? (i := 172) (by decide +kernel))
theorem km_L_114 : Cond.methodLink RL 114 yL_growth ∈ lw_tbl := tin2 _ (List.mem_of_getElem? (i := 176) (by decide +kernel))
theorem km_L_82 : Cond.methodLink RL 82 yX4_growth ∈ lw_tbl := tin2 _ (List.mem_of_getElem? (i := 179) (by decide +kernel))
theorem km_X4_84 : Cond.methodLink RX4 84 yX4_requireActor ∈ lw_tbl := tin2 _ (List.mem_of_getElem? (i := 183) (by decide +kernel))
theorem km_L_116 : Cond.methodLink RL 116 yL_copies ∈ lw_tbl := tin2 _ (List.mem_of_getElem? (i := 187) (by decide +kernel))
theorem km_L_79 : Cond.methodLink RL 79 yX4_copies ∈ lw_tbl := tin2 _ (List.mem_of_getElem? (i := 190) (by decide +kernel))
theorem km_L_184 : Cond.methodLink RL 184 yL_acts ∈ lw_tbl := tin2 _ (List.mem_of_getElem? (i := 195) (by decide +kernel))
theorem km_L_118 : Cond.methodLink RL 118 yL_low ∈ lw_tbl := tin2 _ (List.mem_of_getElem? (i := 198) (by decide +kernel))
theorem kk_L_9 : Cond.constant RL 9 (2147483647 : Int32) ∈ lw_tbl := tin2 _ (List.mem_of_getElem? (i := 201) (by decide +kernel))
theorem km_L_162 : Cond.methodLink RL 162 yL_scenes ∈ lw_tbl := tin2 _ (List.mem_of_getElem? (i := 202) (by decide +kernel))
theorem km_L_121 : Cond.methodLink RL 121 yL_scene ∈ lw_tbl := tin2 _ (List.mem_of_getElem? (i := 205) (by decide +kernel))
theorem km_L_10 : Cond.methodLink RL 10 yX4_scene ∈ lw_tbl := tin2 _ (List.mem_of_getElem? (i := 208) (by decide +kernel))
theorem km_X4_65 : Cond.methodLink RX4 65 yX4_dayBehindPlan ∈ lw_tbl := tin2 _ (List.mem_of_getElem? (i := 213) (by decide +kernel))
theorem kI_X2 : Cond.instantiable RX2 8 ∈ lw_tbl := tin2 _ (List.mem_of_getElem? (i := 218) (by decide +kernel))
theorem km_X4_74 : Cond.methodLink RX4 74 yX2_init ∈ lw_tbl := tin2 _ (List.mem_of_getElem? (i := 219) (by decide +kernel))
theorem km_X2_3 : Cond.methodLink RX2 3 objectInit ∈ lw_tbl := tin2 _ (List.mem_of_getElem? (i := 222) (by decide +kernel))
theorem km_X2_37 : Cond.methodLink RX2 37 yJ7_fill_53178 ∈ lw_tbl := tin2 _ (List.mem_of_getElem? (i := 223) (by decide +kernel))
theorem kf_X2_28 : Cond.fieldLink RX2 28 RX2 "number" "I" ∈ lw_tbl := tin2 _ (List.mem_of_getElem? (i := 226) (by decide +kernel))
theorem kf_X4_77 : Cond.fieldLink RX4 77 RX2 "number" "I" ∈ lw_tbl := tin2 _ (List.mem_of_getElem? (i := 227) (by decide +kernel))
theorem kf_X2_31 : Cond.fieldLink RX2 31 RX2 "set" "I" ∈ lw_tbl := tin2 _ (List.mem_of_getElem? (i := 228) (by decide +kernel))
theorem kf_X1_26 : Cond.fieldLink RX1 26 RX2 "set" "I" ∈ lw_tbl := tin2 _ (List.mem_of_getElem? (i := 229) (by decide +kernel))
theorem kf_X3_36 : Cond.fieldLink RX3 36 RX2 "set" "I" ∈ lw_tbl := tin2 _ (List.mem_of_getElem? (i := 230) (by decide +kernel))
theorem kf_X2_34 : Cond.fieldLink RX2 34 RX2 "flames" "I" ∈ lw_tbl := tin2 _ (List.mem_of_getElem? (i := 231) (by decide +kernel))
theorem kf_X1_29 : Cond.fieldLink RX1 29 RX2 "flames" "I" ∈ lw_tbl := tin2 _ (List.mem_of_getElem? (i := 232) (by decide +kernel))
theorem kf_X4_280 : Cond.fieldLink RX4 280 RX2 "flames" "I" ∈ lw_tbl := tin2 _ (List.mem_of_getElem? (i := 233) (by decide +kernel))
theorem kf_X2_9 : Cond.fieldLink RX2 9 RX2 "beards" "[I" ∈ lw_tbl := tin2 _ (List.mem_of_getElem? (i := 234) (by decide +kernel))
theorem kf_X4_94 : Cond.fieldLink RX4 94 RX2 "beards" "[I" ∈ lw_tbl := tin2 _ (List.mem_of_getElem? (i := 235) (by decide +kernel))
theorem kf_X3_41 : Cond.fieldLink RX3 41 RX2 "beards" "[I" ∈ lw_tbl := tin2 _ (List.mem_of_getElem? (i := 236) (by decide +kernel))
theorem kf_X2_15 : Cond.fieldLink RX2 15 RX2 "from" "[I" ∈ lw_tbl := tin2 _ (List.mem_of_getElem? (i := 237) (by decide +kernel))
theorem kf_X4_111 : Cond.fieldLink RX4 111 RX2 "from" "[I" ∈ lw_tbl := tin2 _ (List.mem_of_getElem? (i := 238) (by decide +kernel))
theorem kf_X3_45 : Cond.fieldLink RX3 45 RX2 "from" "[I" ∈ lw_tbl := tin2 _ (List.mem_of_getElem? (i := 239) (by decide +kernel))
theorem kf_X2_18 : Cond.fieldLink RX2 18 RX2 "to" "[I" ∈ lw_tbl := tin3 _ (List.mem_of_getElem? (i := 0) (by decide +kernel))
theorem kf_X4_114 : Cond.fieldLink RX4 114 RX2 "to" "[I" ∈ lw_tbl := tin3 _ (List.mem_of_getElem? (i := 1) (by decide +kernel))
theorem kf_X3_48 : Cond.fieldLink RX3 48 RX2 "to" "[I" ∈ lw_tbl := tin3 _ (List.mem_of_getElem? (i := 2) (by decide +kernel))
theorem kf_X2_21 : Cond.fieldLink RX2 21 RX2 "state" "I" ∈ lw_tbl := tin3 _ (List.mem_of_getElem? (i := 3) (by decide +kernel))
theorem kf_X4_128 : Cond.fieldLink RX4 128 RX2 "state" "I" ∈ lw_tbl := tin3 _ (List.mem_of_getElem? (i := 4) (by decide +kernel))
theorem kf_X2_25 : Cond.fieldLink RX2 25 RX2 "shotOn" "I" ∈ lw_tbl := tin3 _ (List.mem_of_getElem? (i := 5) (by decide +kernel))
theorem kf_X4_190 : Cond.fieldLink RX4 190 RX2 "shotOn" "I" ∈ lw_tbl := tin3 _ (List.mem_of_getElem? (i := 6) (by decide +kernel))
theorem km_L_123 : Cond.methodLink RL 123 yL_plays ∈ lw_tbl := tin3 _ (List.mem_of_getElem? (i := 24) (by decide +kernel))
theorem km_L_22 : Cond.methodLink RL 22 yX4_plays ∈ lw_tbl := tin3 _ (List.mem_of_getElem? (i := 27) (by decide +kernel))
theorem km_X4_90 : Cond.methodLink RX4 90 yX4_requirePlanned ∈ lw_tbl := tin3 _ (List.mem_of_getElem? (i := 32) (by decide +kernel))
theorem km_X4_97 : Cond.methodLink RX4 97 yX2_countActors ∈ lw_tbl := tin3 _ (List.mem_of_getElem? (i := 36) (by decide +kernel))
theorem km_L_126 : Cond.methodLink RL 126 yL_cut ∈ lw_tbl := tin3 _ (List.mem_of_getElem? (i := 40) (by decide +kernel))
theorem km_L_33 : Cond.methodLink RL 33 yX4_cut ∈ lw_tbl := tin3 _ (List.mem_of_getElem? (i := 43) (by decide +kernel))
theorem km_X4_124 : Cond.methodLink RX4 124 yX4_put ∈ lw_tbl := tin3 _ (List.mem_of_getElem? (i := 47) (by decide +kernel))
theorem km_L_128 : Cond.methodLink RL 128 yL_use ∈ lw_tbl := tin3 _ (List.mem_of_getElem? (i := 48) (by decide +kernel))
theorem km_L_132 : Cond.methodLink RL 132 yL_uses ∈ lw_tbl := tin3 _ (List.mem_of_getElem? (i := 51) (by decide +kernel))
theorem km_L_29 : Cond.methodLink RL 29 yX4_uses ∈ lw_tbl := tin3 _ (List.mem_of_getElem? (i := 54) (by decide +kernel))
theorem km_X4_105 : Cond.methodLink RX4 105 yX4_agesForwards ∈ lw_tbl := tin3 _ (List.mem_of_getElem? (i := 59) (by decide +kernel))
theorem km_X4_117 : Cond.methodLink RX4 117 yX2_countProps ∈ lw_tbl := tin3 _ (List.mem_of_getElem? (i := 64) (by decide +kernel))
theorem km_L_165 : Cond.methodLink RL 165 yL_swaps ∈ lw_tbl := tin3 _ (List.mem_of_getElem? (i := 68) (by decide +kernel))
theorem km_L_135 : Cond.methodLink RL 135 yL_swap ∈ lw_tbl := tin3 _ (List.mem_of_getElem? (i := 71) (by decide +kernel))
theorem km_L_37 : Cond.methodLink RL 37 yX4_swap ∈ lw_tbl := tin3 _ (List.mem_of_getElem? (i := 74) (by decide +kernel))
theorem km_L_137 : Cond.methodLink RL 137 yL_shoot ∈ lw_tbl := tin3 _ (List.mem_of_getElem? (i := 79) (by decide +kernel))
theorem km_L_56 : Cond.methodLink RL 56 yX4_shoot ∈ lw_tbl := tin3 _ (List.mem_of_getElem? (i := 82) (by decide +kernel))
theorem km_X4_193 : Cond.methodLink RX4 193 yX4_putOff ∈ lw_tbl := tin3 _ (List.mem_of_getElem? (i := 87) (by decide +kernel))
theorem km_L_169 : Cond.methodLink RL 169 yL_betters ∈ lw_tbl := tin3 _ (List.mem_of_getElem? (i := 91) (by decide +kernel))
theorem km_L_172 : Cond.methodLink RL 172 yL_ends ∈ lw_tbl := tin3 _ (List.mem_of_getElem? (i := 94) (by decide +kernel))
theorem km_L_176 : Cond.methodLink RL 176 yL_others ∈ lw_tbl := tin3 _ (List.mem_of_getElem? (i := 97) (by decide +kernel))
theorem km_L_148 : Cond.methodLink RL 148 yL_permit ∈ lw_tbl := tin3 _ (List.mem_of_getElem? (i := 100) (by decide +kernel))
theorem km_L_40 : Cond.methodLink RL 40 yX4_permit ∈ lw_tbl := tin3 _ (List.mem_of_getElem? (i := 103) (by decide +kernel))
theorem kI_X1 : Cond.instantiable RX1 5 ∈ lw_tbl := tin3 _ (List.mem_of_getElem? (i := 109) (by decide +kernel))
theorem km_X4_144 : Cond.methodLink RX4 144 yX1_init ∈ lw_tbl := tin3 _ (List.mem_of_getElem? (i := 110) (by decide +kernel))
theorem km_X1_1 : Cond.methodLink RX1 1 objectInit ∈ lw_tbl := tin3 _ (List.mem_of_getElem? (i := 113) (by decide +kernel))
theorem kf_X1_13 : Cond.fieldLink RX1 13 RX1 "set" "I" ∈ lw_tbl := tin3 _ (List.mem_of_getElem? (i := 114) (by decide +kernel))
theorem kf_X1_17 : Cond.fieldLink RX1 17 RX1 "from" "I" ∈ lw_tbl := tin3 _ (List.mem_of_getElem? (i := 115) (by decide +kernel))
theorem kf_X1_20 : Cond.fieldLink RX1 20 RX1 "to" "I" ∈ lw_tbl := tin3 _ (List.mem_of_getElem? (i := 116) (by decide +kernel))
theorem kf_X1_23 : Cond.fieldLink RX1 23 RX1 "flames" "I" ∈ lw_tbl := tin3 _ (List.mem_of_getElem? (i := 117) (by decide +kernel))
theorem kf_X1_7 : Cond.fieldLink RX1 7 RX1 "isRevoked" "Z" ∈ lw_tbl := tin3 _ (List.mem_of_getElem? (i := 118) (by decide +kernel))
theorem kf_X4_151 : Cond.fieldLink RX4 151 RX1 "isRevoked" "Z" ∈ lw_tbl := tin3 _ (List.mem_of_getElem? (i := 119) (by decide +kernel))
theorem km_L_150 : Cond.methodLink RL 150 yL_revoke ∈ lw_tbl := tin3 _ (List.mem_of_getElem? (i := 131) (by decide +kernel))
theorem km_L_43 : Cond.methodLink RL 43 yX4_revoke ∈ lw_tbl := tin3 _ (List.mem_of_getElem? (i := 134) (by decide +kernel))
theorem km_X4_147 : Cond.methodLink RX4 147 yX4_permitNumbered ∈ lw_tbl := tin3 _ (List.mem_of_getElem? (i := 138) (by decide +kernel))
theorem km_L_152 : Cond.methodLink RL 152 yL_away ∈ lw_tbl := tin3 _ (List.mem_of_getElem? (i := 144) (by decide +kernel))
theorem km_L_46 : Cond.methodLink RL 46 yX4_away ∈ lw_tbl := tin3 _ (List.mem_of_getElem? (i := 147) (by decide +kernel))
theorem km_L_155 : Cond.methodLink RL 155 yL_buy ∈ lw_tbl := tin3 _ (List.mem_of_getElem? (i := 151) (by decide +kernel))
theorem km_L_50 : Cond.methodLink RL 50 yX4_buy ∈ lw_tbl := tin3 _ (List.mem_of_getElem? (i := 154) (by decide +kernel))
theorem km_X4_167 : Cond.methodLink RX4 167 yX3_countCopies ∈ lw_tbl := tin3 _ (List.mem_of_getElem? (i := 158) (by decide +kernel))
theorem km_L_157 : Cond.methodLink RL 157 yL_mishap ∈ lw_tbl := tin3 _ (List.mem_of_getElem? (i := 163) (by decide +kernel))
theorem km_L_53 : Cond.methodLink RL 53 yX4_mishap ∈ lw_tbl := tin3 _ (List.mem_of_getElem? (i := 166) (by decide +kernel))
theorem kini_X0 : Cond.initialized RX0 ∈ lw_tbl := tin1 _ (List.mem_of_getElem? (i := 3) (by decide +kernel))
theorem kini_X1 : Cond.initialized RX1 ∈ lw_tbl := tin1 _ (List.mem_of_getElem? (i := 14) (by decide +kernel))
theorem kini_X2 : Cond.initialized RX2 ∈ lw_tbl := tin1 _ (List.mem_of_getElem? (i := 11) (by decide +kernel))
theorem kini_X3 : Cond.initialized RX3 ∈ lw_tbl := tin1 _ (List.mem_of_getElem? (i := 2) (by decide +kernel))
theorem kini_X4 : Cond.initialized RX4 ∈ lw_tbl := tin1 _ (List.mem_of_getElem? (i := 1) (by decide +kernel))
theorem kini_L : Cond.initialized RL ∈ lw_tbl := tin1 _ (List.mem_of_getElem? (i := 0) (by decide +kernel))
theorem kini_J7 : Cond.initialized RJ7 ∈ lw_tbl := tin1 _ (List.mem_of_getElem? (i := 12) (by decide +kernel))
theorem kini_IllegalArgumentException : Cond.initialized "java/lang/IllegalArgumentException" ∈ lw_tbl := tin1 _ (List.mem_of_getElem? (i := 10) (by decide +kernel))
theorem kini_IllegalStateException : Cond.initialized "java/lang/IllegalStateException" ∈ lw_tbl := tin1 _ (List.mem_of_getElem? (i := 9) (by decide +kernel))
theorem kini_IndexOutOfBoundsException : Cond.initialized "java/lang/IndexOutOfBoundsException" ∈ lw_tbl := tin1 _ (List.mem_of_getElem? (i := 13) (by decide +kernel))
theorem kini_Math : Cond.initialized "java/lang/Math" ∈ lw_tbl := tin1 _ (List.mem_of_getElem? (i := 5) (by decide +kernel))
theorem kini_System : Cond.initialized "java/lang/System" ∈ lw_tbl := tin1 _ (List.mem_of_getElem? (i := 4) (by decide +kernel))
theorem zc_X0_init : Cond.code yX0_init cX0_init 1 none ∈ lw_tbl := tin1 _ (List.mem_of_getElem? (i := 52) rfl)
theorem zi_X0_init : Cond.instanceMethod yX0_init ∈ lw_tbl := tin1 _ (List.mem_of_getElem? (i := 51) (by decide +kernel))
theorem zy_X0_note : zYV yX0_note RX0 cX0_note 3 none 1 := ⟨tin1 _ (List.mem_of_getElem? (i := 212) (by decide +kernel)), tin1 _ (List.mem_of_getElem? (i := 213) (by decide +kernel)), kini_X0, tin1 _ (List.mem_of_getElem? (i := 214) rfl), rfl, by decide +kernel, by decide +kernel⟩
theorem zy_X0_countOrders : zYV yX0_countOrders RX0 cX0_countOrders 3 (some FieldType.int) 0 := ⟨tin2 _ (List.mem_of_getElem? (i := 44) (by decide +kernel)), tin2 _ (List.mem_of_getElem? (i := 45) (by decide +kernel)), kini_X0, tin2 _ (List.mem_of_getElem? (i := 46) rfl), rfl, by decide +kernel, by decide +kernel⟩
theorem zy_X0_restore : zYV yX0_restore RX0 cX0_restore 3 none 1 := ⟨tin2 _ (List.mem_of_getElem? (i := 52) (by decide +kernel)), tin2 _ (List.mem_of_getElem? (i := 53) (by decide +kernel)), kini_X0, tin2 _ (List.mem_of_getElem? (i := 54) rfl), rfl, by decide +kernel, by decide +kernel⟩
theorem zy_X0_lay : zYV yX0_lay RX0 cX0_lay 5 none 2 := ⟨tin2 _ (List.mem_of_getElem? (i := 48) (by decide +kernel)), tin2 _ (List.mem_of_getElem? (i := 49) (by decide +kernel)), kini_X0, tin2 _ (List.mem_of_getElem? (i := 50) rfl), rfl, by decide +kernel, by decide +kernel⟩
theorem zc_X1_init : Cond.code yX1_init cX1_init 5 none ∈ lw_tbl := tin3 _ (List.mem_of_getElem? (i := 112) rfl)
theorem zi_X1_init : Cond.instanceMethod yX1_init ∈ lw_tbl := tin3 _ (List.mem_of_getElem? (i := 111) (by decide +kernel))
theorem zy_X1_covers : zYV yX1_covers RX1 cX1_covers 3 (some FieldType.boolean) 2 := ⟨tin1 _ (List.mem_of_getElem? (i := 125) (by decide +kernel)), tin1 _ (List.mem_of_getElem? (i := 126) (by decide +kernel)), kini_X1, tin1 _ (List.mem_of_getElem? (i := 127) rfl), rfl, by decide +kernel, by decide +kernel⟩
theorem zc_X2_init : Cond.code yX2_init cX2_init 4 none ∈ lw_tbl := tin2 _ (List.mem_of_getElem? (i := 221) rfl)
theorem zi_X2_init : Cond.instanceMethod yX2_init ∈ lw_tbl := tin2 _ (List.mem_of_getElem? (i := 220) (by decide +kernel))
theorem zy_X2_countActors : zYV yX2_countActors RX2 cX2_countActors 6 (some FieldType.int) 0 := ⟨tin3 _ (List.mem_of_getElem? (i := 37) (by decide +kernel)), tin3 _ (List.mem_of_getElem? (i := 38) (by decide +kernel)), kini_X2, tin3 _ (List.mem_of_getElem? (i := 39) rfl), rfl, by decide +kernel, by decide +kernel⟩
theorem zy_X2_countProps : zYV yX2_countProps RX2 cX2_countProps 6 (some FieldType.int) 0 := ⟨tin3 _ (List.mem_of_getElem? (i := 65) (by decide +kernel)), tin3 _ (List.mem_of_getElem? (i := 66) (by decide +kernel)), kini_X2, tin3 _ (List.mem_of_getElem? (i := 67) rfl), rfl, by decide +kernel, by decide +kernel⟩
theorem zy_X2_ages : zYV yX2_ages RX2 cX2_ages 2 (some FieldType.boolean) 1 := ⟨tin2 _ (List.mem_of_getElem? (i := 153) (by decide +kernel)), tin2 _ (List.mem_of_getElem? (i := 154) (by decide +kernel)), kini_X2, tin2 _ (List.mem_of_getElem? (i := 155) rfl), rfl, by decide +kernel, by decide +kernel⟩
theorem zc_X3_init : Cond.code yX3_init cX3_init 1 none ∈ lw_tbl := tin1 _ (List.mem_of_getElem? (i := 31) rfl)
theorem zi_X3_init : Cond.instanceMethod yX3_init ∈ lw_tbl := tin1 _ (List.mem_of_getElem? (i := 30) (by decide +kernel))
theorem zy_X3_copy : zYV yX3_copy RX3 cX3_copy 3 none 1 := ⟨tin1 _ (List.mem_of_getElem? (i := 160) (by decide +kernel)), tin1 _ (List.mem_of_getElem? (i := 161) (by decide +kernel)), kini_X3, tin1 _ (List.mem_of_getElem? (i := 162) rfl), rfl, by decide +kernel, by decide +kernel⟩
theorem zy_X3_countCopies : zYV yX3_countCopies RX3 cX3_countCopies 4 (some FieldType.int) 1 := ⟨tin3 _ (List.mem_of_getElem? (i := 159) (by decide +kernel)), tin3 _ (List.mem_of_getElem? (i := 160) (by decide +kernel)), kini_X3, tin3 _ (List.mem_of_getElem? (i := 161) rfl), rfl, by decide +kernel, by decide +kernel⟩
theorem zy_X3_growBeards : zYV yX3_growBeards RX3 cX3_growBeards 3 none 1 := ⟨tin1 _ (List.mem_of_getElem? (i := 167) (by decide +kernel)), tin1 _ (List.mem_of_getElem? (i := 168) (by decide +kernel)), kini_X3, tin1 _ (List.mem_of_getElem? (i := 169) rfl), rfl, by decide +kernel, by decide +kernel⟩
theorem zy_X3_film : zYV yX3_film RX3 cX3_film 4 (some FieldType.int) 1 := ⟨tin1 _ (List.mem_of_getElem? (i := 174) (by decide +kernel)), tin1 _ (List.mem_of_getElem? (i := 175) (by decide +kernel)), kini_X3, tin1 _ (List.mem_of_getElem? (i := 176) rfl), rfl, by decide +kernel, by decide +kernel⟩
theorem zy_X3_dress : zYV yX3_dress RX3 cX3_dress 3 (some FieldType.int) 2 := ⟨tin1 _ (List.mem_of_getElem? (i := 179) (by decide +kernel)), tin0 _ (List.mem_of_getElem? (i := 11) (by decide +kernel)), kini_X3, tin1 _ (List.mem_of_getElem? (i := 180) rfl), rfl, by decide +kernel, by decide +kernel⟩
theorem zy_X3_serve : zYV yX3_serve RX3 cX3_serve 7 (some FieldType.int) 3 := ⟨tin1 _ (List.mem_of_getElem? (i := 183) (by decide +kernel)), tin0 _ (List.mem_of_getElem? (i := 12) (by decide +kernel)), kini_X3, tin1 _ (List.mem_of_getElem? (i := 184) rfl), rfl, by decide +kernel, by decide +kernel⟩
theorem zc_X4_init : Cond.code yX4_init cX4_init 1 none ∈ lw_tbl := tin1 _ (List.mem_of_getElem? (i := 19) rfl)
theorem zi_X4_init : Cond.instanceMethod yX4_init ∈ lw_tbl := tin1 _ (List.mem_of_getElem? (i := 18) (by decide +kernel))
theorem zy_X4_scene : zYV yX4_scene RX4 cX4_scene 5 (some FieldType.int) 2 := ⟨tin2 _ (List.mem_of_getElem? (i := 209) (by decide +kernel)), tin2 _ (List.mem_of_getElem? (i := 210) (by decide +kernel)), kini_X4, tin2 _ (List.mem_of_getElem? (i := 211) rfl), rfl, by decide +kernel, by decide +kernel⟩
theorem zy_X4_plays : zYV yX4_plays RX4 cX4_plays 5 (some FieldType.int) 3 := ⟨tin3 _ (List.mem_of_getElem? (i := 28) (by decide +kernel)), tin3 _ (List.mem_of_getElem? (i := 29) (by decide +kernel)), kini_X4, tin3 _ (List.mem_of_getElem? (i := 30) rfl), rfl, by decide +kernel, by decide +kernel⟩
theorem zy_X4_uses : zYV yX4_uses RX4 cX4_uses 6 (some FieldType.int) 4 := ⟨tin3 _ (List.mem_of_getElem? (i := 55) (by decide +kernel)), tin3 _ (List.mem_of_getElem? (i := 56) (by decide +kernel)), kini_X4, tin3 _ (List.mem_of_getElem? (i := 57) rfl), rfl, by decide +kernel, by decide +kernel⟩
theorem zy_X4_cut : zYV yX4_cut RX4 cX4_cut 4 (some FieldType.int) 1 := ⟨tin3 _ (List.mem_of_getElem? (i := 44) (by decide +kernel)), tin3 _ (List.mem_of_getElem? (i := 45) (by decide +kernel)), kini_X4, tin3 _ (List.mem_of_getElem? (i := 46) rfl), rfl, by decide +kernel, by decide +kernel⟩
theorem zy_X4_swap : zYV yX4_swap RX4 cX4_swap 3 (some FieldType.int) 2 := ⟨tin3 _ (List.mem_of_getElem? (i := 75) (by decide +kernel)), tin3 _ (List.mem_of_getElem? (i := 76) (by decide +kernel)), kini_X4, tin3 _ (List.mem_of_getElem? (i := 77) rfl), rfl, by decide +kernel, by decide +kernel⟩
theorem zy_X4_permit : zYV yX4_permit RX4 cX4_permit 6 (some FieldType.int) 4 := ⟨tin3 _ (List.mem_of_getElem? (i := 104) (by decide +kernel)), tin3 _ (List.mem_of_getElem? (i := 105) (by decide +kernel)), kini_X4, tin3 _ (List.mem_of_getElem? (i := 106) rfl), rfl, by decide +kernel, by decide +kernel⟩
theorem zy_X4_revoke : zYV yX4_revoke RX4 cX4_revoke 4 (some FieldType.int) 1 := ⟨tin3 _ (List.mem_of_getElem? (i := 135) (by decide +kernel)), tin3 _ (List.mem_of_getElem? (i := 136) (by decide +kernel)), kini_X4, tin3 _ (List.mem_of_getElem? (i := 137) rfl), rfl, by decide +kernel, by decide +kernel⟩
theorem zy_X4_away : zYV yX4_away RX4 cX4_away 5 (some FieldType.boolean) 3 := ⟨tin3 _ (List.mem_of_getElem? (i := 148) (by decide +kernel)), tin3 _ (List.mem_of_getElem? (i := 149) (by decide +kernel)), kini_X4, tin3 _ (List.mem_of_getElem? (i := 150) rfl), rfl, by decide +kernel, by decide +kernel⟩
theorem zy_X4_buy : zYV yX4_buy RX4 cX4_buy 3 (some FieldType.int) 1 := ⟨tin3 _ (List.mem_of_getElem? (i := 155) (by decide +kernel)), tin3 _ (List.mem_of_getElem? (i := 156) (by decide +kernel)), kini_X4, tin3 _ (List.mem_of_getElem? (i := 157) rfl), rfl, by decide +kernel, by decide +kernel⟩
theorem zy_X4_clear : zYV yX4_clear RX4 cX4_clear 3 (some FieldType.int) 0 := ⟨tin1 _ (List.mem_of_getElem? (i := 101) (by decide +kernel)), tin1 _ (List.mem_of_getElem? (i := 102) (by decide +kernel)), kini_X4, tin1 _ (List.mem_of_getElem? (i := 103) rfl), rfl, by decide +kernel, by decide +kernel⟩
theorem zy_X4_mishap : zYV yX4_mishap RX4 cX4_mishap 4 (some FieldType.int) 2 := ⟨tin3 _ (List.mem_of_getElem? (i := 167) (by decide +kernel)), tin3 _ (List.mem_of_getElem? (i := 168) (by decide +kernel)), kini_X4, tin3 _ (List.mem_of_getElem? (i := 169) rfl), rfl, by decide +kernel, by decide +kernel⟩
theorem zy_X4_shoot : zYV yX4_shoot RX4 cX4_shoot 3 (some FieldType.int) 0 := ⟨tin3 _ (List.mem_of_getElem? (i := 83) (by decide +kernel)), tin3 _ (List.mem_of_getElem? (i := 84) (by decide +kernel)), kini_X4, tin3 _ (List.mem_of_getElem? (i := 85) rfl), rfl, by decide +kernel, by decide +kernel⟩
theorem zy_X4_mend : zYV yX4_mend RX4 cX4_mend 4 (some FieldType.int) 0 := ⟨tin1 _ (List.mem_of_getElem? (i := 105) (by decide +kernel)), tin1 _ (List.mem_of_getElem? (i := 106) (by decide +kernel)), kini_X4, tin1 _ (List.mem_of_getElem? (i := 107) rfl), rfl, by decide +kernel, by decide +kernel⟩
theorem zy_X4_better : zYV yX4_better RX4 cX4_better 2 (some FieldType.int) 0 := ⟨tin1 _ (List.mem_of_getElem? (i := 186) (by decide +kernel)), tin1 _ (List.mem_of_getElem? (i := 187) (by decide +kernel)), kini_X4, tin1 _ (List.mem_of_getElem? (i := 188) rfl), rfl, by decide +kernel, by decide +kernel⟩
theorem zy_X4_least : zYV yX4_least RX4 cX4_least 4 (some FieldType.int) 0 := ⟨tin1 _ (List.mem_of_getElem? (i := 208) (by decide +kernel)), tin1 _ (List.mem_of_getElem? (i := 209) (by decide +kernel)), kini_X4, tin1 _ (List.mem_of_getElem? (i := 210) rfl), rfl, by decide +kernel, by decide +kernel⟩
theorem zy_X4_today : zYV yX4_today RX4 cX4_today 1 (some FieldType.int) 0 := ⟨tin2 _ (List.mem_of_getElem? (i := 165) (by decide +kernel)), tin2 _ (List.mem_of_getElem? (i := 166) (by decide +kernel)), kini_X4, tin2 _ (List.mem_of_getElem? (i := 167) rfl), rfl, by decide +kernel, by decide +kernel⟩
theorem zy_X4_spent : zYV yX4_spent RX4 cX4_spent 1 (some FieldType.int) 0 := ⟨tin2 _ (List.mem_of_getElem? (i := 169) (by decide +kernel)), tin2 _ (List.mem_of_getElem? (i := 170) (by decide +kernel)), kini_X4, tin2 _ (List.mem_of_getElem? (i := 171) rfl), rfl, by decide +kernel, by decide +kernel⟩
theorem zy_X4_cost : zYV yX4_cost RX4 cX4_cost 1 (some FieldType.int) 0 := ⟨tin1 _ (List.mem_of_getElem? (i := 195) (by decide +kernel)), tin1 _ (List.mem_of_getElem? (i := 196) (by decide +kernel)), kini_X4, tin1 _ (List.mem_of_getElem? (i := 197) rfl), rfl, by decide +kernel, by decide +kernel⟩
theorem zy_X4_scenes : zYV yX4_scenes RX4 cX4_scenes 1 (some FieldType.int) 0 := ⟨tin2 _ (List.mem_of_getElem? (i := 173) (by decide +kernel)), tin2 _ (List.mem_of_getElem? (i := 174) (by decide +kernel)), kini_X4, tin2 _ (List.mem_of_getElem? (i := 175) rfl), rfl, by decide +kernel, by decide +kernel⟩
theorem zy_X4_stateOf : zYV yX4_stateOf RX4 cX4_stateOf 2 (some FieldType.int) 1 := ⟨tin2 _ (List.mem_of_getElem? (i := 99) (by decide +kernel)), tin2 _ (List.mem_of_getElem? (i := 100) (by decide +kernel)), kini_X4, tin2 _ (List.mem_of_getElem? (i := 101) rfl), rfl, by decide +kernel, by decide +kernel⟩
theorem zy_X4_dayOf : zYV yX4_dayOf RX4 cX4_dayOf 3 (some FieldType.int) 1 := ⟨tin2 _ (List.mem_of_getElem? (i := 127) (by decide +kernel)), tin2 _ (List.mem_of_getElem? (i := 128) (by decide +kernel)), kini_X4, tin2 _ (List.mem_of_getElem? (i := 129) rfl), rfl, by decide +kernel, by decide +kernel⟩
theorem zy_X4_sceneOn : zYV yX4_sceneOn RX4 cX4_sceneOn 3 (some FieldType.int) 1 := ⟨tin2 _ (List.mem_of_getElem? (i := 71) (by decide +kernel)), tin2 _ (List.mem_of_getElem? (i := 72) (by decide +kernel)), kini_X4, tin2 _ (List.mem_of_getElem? (i := 73) rfl), rfl, by decide +kernel, by decide +kernel⟩
theorem zy_X4_refused : zYV yX4_refused RX4 cX4_refused 1 (some FieldType.int) 0 := ⟨tin2 _ (List.mem_of_getElem? (i := 157) (by decide +kernel)), tin2 _ (List.mem_of_getElem? (i := 158) (by decide +kernel)), kini_X4, tin2 _ (List.mem_of_getElem? (i := 159) rfl), rfl, by decide +kernel, by decide +kernel⟩
theorem zy_X4_isAllowed : zYV yX4_isAllowed RX4 cX4_isAllowed 4 (some FieldType.boolean) 2 := ⟨tin2 _ (List.mem_of_getElem? (i := 138) (by decide +kernel)), tin2 _ (List.mem_of_getElem? (i := 139) (by decide +kernel)), kini_X4, tin2 _ (List.mem_of_getElem? (i := 140) rfl), rfl, by decide +kernel, by decide +kernel⟩
theorem zy_X4_ahead : zYV yX4_ahead RX4 cX4_ahead 8 (some FieldType.int) 2 := ⟨tin2 _ (List.mem_of_getElem? (i := 145) (by decide +kernel)), tin2 _ (List.mem_of_getElem? (i := 146) (by decide +kernel)), kini_X4, tin2 _ (List.mem_of_getElem? (i := 147) rfl), rfl, by decide +kernel, by decide +kernel⟩
theorem zy_X4_copies : zYV yX4_copies RX4 cX4_copies 3 (some FieldType.int) 2 := ⟨tin2 _ (List.mem_of_getElem? (i := 191) (by decide +kernel)), tin2 _ (List.mem_of_getElem? (i := 192) (by decide +kernel)), kini_X4, tin2 _ (List.mem_of_getElem? (i := 193) rfl), rfl, by decide +kernel, by decide +kernel⟩
theorem zy_X4_growth : zYV yX4_growth RX4 cX4_growth 2 (some FieldType.int) 1 := ⟨tin2 _ (List.mem_of_getElem? (i := 180) (by decide +kernel)), tin2 _ (List.mem_of_getElem? (i := 181) (by decide +kernel)), kini_X4, tin2 _ (List.mem_of_getElem? (i := 182) rfl), rfl, by decide +kernel, by decide +kernel⟩
theorem zy_X4_sceneNumbered : zYV yX4_sceneNumbered RX4 cX4_sceneNumbered 2 (some (FieldType.object "BacklotPlanner$Scene")) 1 := ⟨tin2 _ (List.mem_of_getElem? (i := 104) (by decide +kernel)), tin0 _ (List.mem_of_getElem? (i := 15) (by decide +kernel)), kini_X4, tin2 _ (List.mem_of_getElem? (i := 105) rfl), rfl, by decide +kernel, by decide +kernel⟩
theorem zy_X4_permitNumbered : zYV yX4_permitNumbered RX4 cX4_permitNumbered 2 (some (FieldType.object "BacklotPlanner$Permit")) 1 := ⟨tin3 _ (List.mem_of_getElem? (i := 140) (by decide +kernel)), tin0 _ (List.mem_of_getElem? (i := 21) (by decide +kernel)), kini_X4, tin3 _ (List.mem_of_getElem? (i := 141) rfl), rfl, by decide +kernel, by decide +kernel⟩
theorem zy_X4_requireActor : zYS yX4_requireActor cX4_requireActor 1 none 1 := ⟨tin2 _ (List.mem_of_getElem? (i := 184) (by decide +kernel)), kini_X4, tin2 _ (List.mem_of_getElem? (i := 185) rfl), by decide +kernel, by decide +kernel⟩
theorem zy_X4_requireProp : zYS yX4_requireProp cX4_requireProp 1 none 1 := ⟨tin2 _ (List.mem_of_getElem? (i := 149) (by decide +kernel)), kini_X4, tin2 _ (List.mem_of_getElem? (i := 150) rfl), by decide +kernel, by decide +kernel⟩
theorem zy_X4_requireDay : zYS yX4_requireDay cX4_requireDay 1 none 1 := ⟨tin2 _ (List.mem_of_getElem? (i := 75) (by decide +kernel)), kini_X4, tin2 _ (List.mem_of_getElem? (i := 76) rfl), by decide +kernel, by decide +kernel⟩
theorem zy_X4_requirePlanned : zYS yX4_requirePlanned cX4_requirePlanned 1 none 1 := ⟨tin3 _ (List.mem_of_getElem? (i := 33) (by decide +kernel)), kini_X4, tin3 _ (List.mem_of_getElem? (i := 34) rfl), by decide +kernel, by decide +kernel⟩
theorem zy_X4_agesForwards : zYV yX4_agesForwards RX4 cX4_agesForwards 9 (some FieldType.boolean) 4 := ⟨tin3 _ (List.mem_of_getElem? (i := 61) (by decide +kernel)), tin0 _ (List.mem_of_getElem? (i := 19) (by decide +kernel)), kini_X4, tin3 _ (List.mem_of_getElem? (i := 62) rfl), rfl, by decide +kernel, by decide +kernel⟩
theorem zy_X4_dayBehindPlan : zYV yX4_dayBehindPlan RX4 cX4_dayBehindPlan 3 (some FieldType.int) 0 := ⟨tin2 _ (List.mem_of_getElem? (i := 215) (by decide +kernel)), tin0 _ (List.mem_of_getElem? (i := 18) (by decide +kernel)), kini_X4, tin2 _ (List.mem_of_getElem? (i := 216) rfl), rfl, by decide +kernel, by decide +kernel⟩
theorem zy_X4_plannedDay : zYV yX4_plannedDay RX4 cX4_plannedDay 3 (some FieldType.int) 1 := ⟨tin2 _ (List.mem_of_getElem? (i := 132) (by decide +kernel)), tin0 _ (List.mem_of_getElem? (i := 16) (by decide +kernel)), kini_X4, tin2 _ (List.mem_of_getElem? (i := 133) rfl), rfl, by decide +kernel, by decide +kernel⟩
theorem zy_X4_putOff : zYV yX4_putOff RX4 cX4_putOff 3 none 1 := ⟨tin3 _ (List.mem_of_getElem? (i := 89) (by decide +kernel)), tin0 _ (List.mem_of_getElem? (i := 20) (by decide +kernel)), kini_X4, tin3 _ (List.mem_of_getElem? (i := 90) rfl), rfl, by decide +kernel, by decide +kernel⟩
theorem zy_X4_swapDays : zYV yX4_swapDays RX4 cX4_swapDays 3 none 2 := ⟨tin1 _ (List.mem_of_getElem? (i := 150) (by decide +kernel)), tin0 _ (List.mem_of_getElem? (i := 9) (by decide +kernel)), kini_X4, tin1 _ (List.mem_of_getElem? (i := 151) rfl), rfl, by decide +kernel, by decide +kernel⟩
theorem zy_X4_put : zYS yX4_put cX4_put 3 none 3 := ⟨tin2 _ (List.mem_of_getElem? (i := 56) (by decide +kernel)), kini_X4, tin2 _ (List.mem_of_getElem? (i := 57) rfl), by decide +kernel, by decide +kernel⟩
theorem zy_X4_exchange : zYS yX4_exchange cX4_exchange 4 none 3 := ⟨tin1 _ (List.mem_of_getElem? (i := 153) (by decide +kernel)), kini_X4, tin1 _ (List.mem_of_getElem? (i := 154) rfl), by decide +kernel, by decide +kernel⟩
theorem zy_X4_planCost : zYV yX4_planCost RX4 cX4_planCost 5 (some FieldType.int) 0 := ⟨tin1 _ (List.mem_of_getElem? (i := 157) (by decide +kernel)), tin0 _ (List.mem_of_getElem? (i := 10) (by decide +kernel)), kini_X4, tin1 _ (List.mem_of_getElem? (i := 158) rfl), rfl, by decide +kernel, by decide +kernel⟩
theorem zy_X4_costAfterSwap : zYV yX4_costAfterSwap RX4 cX4_costAfterSwap 4 (some FieldType.int) 2 := ⟨tin1 _ (List.mem_of_getElem? (i := 146) (by decide +kernel)), tin0 _ (List.mem_of_getElem? (i := 8) (by decide +kernel)), kini_X4, tin1 _ (List.mem_of_getElem? (i := 147) rfl), rfl, by decide +kernel, by decide +kernel⟩
theorem zy_X4_mendingDay : zYV yX4_mendingDay RX4 cX4_mendingDay 6 (some FieldType.int) 1 := ⟨tin1 _ (List.mem_of_getElem? (i := 138) (by decide +kernel)), tin0 _ (List.mem_of_getElem? (i := 6) (by decide +kernel)), kini_X4, tin1 _ (List.mem_of_getElem? (i := 139) rfl), rfl, by decide +kernel, by decide +kernel⟩
theorem zy_X4_wouldMend : zYV yX4_wouldMend RX4 cX4_wouldMend 3 (some FieldType.boolean) 2 := ⟨tin1 _ (List.mem_of_getElem? (i := 142) (by decide +kernel)), tin0 _ (List.mem_of_getElem? (i := 7) (by decide +kernel)), kini_X4, tin1 _ (List.mem_of_getElem? (i := 143) rfl), rfl, by decide +kernel, by decide +kernel⟩
theorem zy_X4_isFree : zYV yX4_isFree RX4 cX4_isFree 3 (some FieldType.boolean) 2 := ⟨tin1 _ (List.mem_of_getElem? (i := 114) (by decide +kernel)), tin0 _ (List.mem_of_getElem? (i := 1) (by decide +kernel)), kini_X4, tin1 _ (List.mem_of_getElem? (i := 115) rfl), rfl, by decide +kernel, by decide +kernel⟩
theorem zy_X4_makeBestSwap : zYV yX4_makeBestSwap RX4 cX4_makeBestSwap 7 (some FieldType.boolean) 0 := ⟨tin1 _ (List.mem_of_getElem? (i := 192) (by decide +kernel)), tin0 _ (List.mem_of_getElem? (i := 13) (by decide +kernel)), kini_X4, tin1 _ (List.mem_of_getElem? (i := 193) rfl), rfl, by decide +kernel, by decide +kernel⟩
theorem zy_X4_countRefused : zYV yX4_countRefused RX4 cX4_countRefused 3 (some FieldType.int) 0 := ⟨tin2 _ (List.mem_of_getElem? (i := 162) (by decide +kernel)), tin0 _ (List.mem_of_getElem? (i := 17) (by decide +kernel)), kini_X4, tin2 _ (List.mem_of_getElem? (i := 163) rfl), rfl, by decide +kernel, by decide +kernel⟩
theorem zy_X4_isRefusedOn : zYV yX4_isRefusedOn RX4 cX4_isRefusedOn 2 (some FieldType.boolean) 1 := ⟨tin1 _ (List.mem_of_getElem? (i := 110) (by decide +kernel)), tin0 _ (List.mem_of_getElem? (i := 0) (by decide +kernel)), kini_X4, tin1 _ (List.mem_of_getElem? (i := 111) rfl), rfl, by decide +kernel, by decide +kernel⟩
theorem zy_X4_allows : zYV yX4_allows RX4 cX4_allows 3 (some FieldType.boolean) 2 := ⟨tin1 _ (List.mem_of_getElem? (i := 118) (by decide +kernel)), tin0 _ (List.mem_of_getElem? (i := 2) (by decide +kernel)), kini_X4, tin1 _ (List.mem_of_getElem? (i := 119) rfl), rfl, by decide +kernel, by decide +kernel⟩
theorem zy_X4_isPermitted : zYV yX4_isPermitted RX4 cX4_isPermitted 7 (some FieldType.boolean) 2 := ⟨tin1 _ (List.mem_of_getElem? (i := 122) (by decide +kernel)), tin0 _ (List.mem_of_getElem? (i := 3) (by decide +kernel)), kini_X4, tin1 _ (List.mem_of_getElem? (i := 123) rfl), rfl, by decide +kernel, by decide +kernel⟩
theorem zy_X4_isCastThere : zYV yX4_isCastThere RX4 cX4_isCastThere 4 (some FieldType.boolean) 2 := ⟨tin1 _ (List.mem_of_getElem? (i := 130) (by decide +kernel)), tin0 _ (List.mem_of_getElem? (i := 4) (by decide +kernel)), kini_X4, tin1 _ (List.mem_of_getElem? (i := 131) rfl), rfl, by decide +kernel, by decide +kernel⟩
theorem zy_X4_isAwayOn : zYV yX4_isAwayOn RX4 cX4_isAwayOn 3 (some FieldType.boolean) 2 := ⟨tin1 _ (List.mem_of_getElem? (i := 134) (by decide +kernel)), tin0 _ (List.mem_of_getElem? (i := 5) (by decide +kernel)), kini_X4, tin1 _ (List.mem_of_getElem? (i := 135) rfl), rfl, by decide +kernel, by decide +kernel⟩
theorem zy_J7_fill_53178 : zYS yJ7_fill_53178 cJ7_fill_53178 4 none 2 := ⟨tin2 _ (List.mem_of_getElem? (i := 224) (by decide +kernel)), kini_J7, tin2 _ (List.mem_of_getElem? (i := 225) rfl), by decide +kernel, by decide +kernel⟩
theorem zy_L_at : zYS yL_at cL_at 2 (some FieldType.int) 2 := ⟨tin1 _ (List.mem_of_getElem? (i := 199) (by decide +kernel)), kini_L, tin1 _ (List.mem_of_getElem? (i := 200) rfl), by decide +kernel, by decide +kernel⟩
theorem zy_L_low : zYS yL_low cL_low 2 (some FieldType.int) 2 := ⟨tin2 _ (List.mem_of_getElem? (i := 199) (by decide +kernel)), kini_L, tin2 _ (List.mem_of_getElem? (i := 200) rfl), by decide +kernel, by decide +kernel⟩
theorem zy_L_isSo : zYS yL_isSo cL_isSo 9 (some FieldType.boolean) 3 := ⟨tin2 _ (List.mem_of_getElem? (i := 64) (by decide +kernel)), kini_L, tin2 _ (List.mem_of_getElem? (i := 65) rfl), by decide +kernel, by decide +kernel⟩
theorem zy_L_use : zYS yL_use cL_use 4 (some FieldType.int) 4 := ⟨tin3 _ (List.mem_of_getElem? (i := 49) (by decide +kernel)), kini_L, tin3 _ (List.mem_of_getElem? (i := 50) rfl), by decide +kernel, by decide +kernel⟩
theorem zy_L_scenes : zYS yL_scenes cL_scenes 13 (some FieldType.boolean) 5 := ⟨tin2 _ (List.mem_of_getElem? (i := 203) (by decide +kernel)), kini_L, tin2 _ (List.mem_of_getElem? (i := 204) rfl), by decide +kernel, by decide +kernel⟩
theorem zy_L_swaps : zYS yL_swaps cL_swaps 11 (some FieldType.boolean) 4 := ⟨tin3 _ (List.mem_of_getElem? (i := 69) (by decide +kernel)), kini_L, tin3 _ (List.mem_of_getElem? (i := 70) rfl), by decide +kernel, by decide +kernel⟩
theorem zy_L_betters : zYS yL_betters cL_betters 14 (some FieldType.boolean) 4 := ⟨tin3 _ (List.mem_of_getElem? (i := 92) (by decide +kernel)), kini_L, tin3 _ (List.mem_of_getElem? (i := 93) rfl), by decide +kernel, by decide +kernel⟩
theorem zy_L_ends : zYS yL_ends cL_ends 10 (some FieldType.boolean) 2 := ⟨tin3 _ (List.mem_of_getElem? (i := 95) (by decide +kernel)), kini_L, tin3 _ (List.mem_of_getElem? (i := 96) rfl), by decide +kernel, by decide +kernel⟩
theorem zy_L_others : zYS yL_others cL_others 11 (some FieldType.boolean) 5 := ⟨tin3 _ (List.mem_of_getElem? (i := 98) (by decide +kernel)), kini_L, tin3 _ (List.mem_of_getElem? (i := 99) rfl), by decide +kernel, by decide +kernel⟩
theorem zy_L_acts : zYS yL_acts cL_acts 7 (some FieldType.boolean) 6 := ⟨tin2 _ (List.mem_of_getElem? (i := 196) (by decide +kernel)), kini_L, tin2 _ (List.mem_of_getElem? (i := 197) rfl), by decide +kernel, by decide +kernel⟩
set_option maxRecDepth 20000 in
theorem inX0 : ∀ w ∈ u_ws RX0 TX0 3, w ∈ lw_tbl := by decide +kernel
set_option maxRecDepth 20000 in
theorem inX1 : ∀ w ∈ u_ws RX1 TX1 5, w ∈ lw_tbl := by decide +kernel
set_option maxRecDepth 20000 in
theorem inX2 : ∀ w ∈ u_ws RX2 TX2 8, w ∈ lw_tbl := by decide +kernel
set_option maxRecDepth 20000 in
theorem inX3 : ∀ w ∈ u_ws RX3 TX3 3, w ∈ lw_tbl := by decide +kernel
set_option maxRecDepth 20000 in
theorem inX4 : ∀ w ∈ u_ws RX4 TX4 11, w ∈ lw_tbl := by decide +kernel
