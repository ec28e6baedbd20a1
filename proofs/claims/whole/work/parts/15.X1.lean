theorem d_X_constantFound_0 : decode b_X_constantFound 0 = .ok (.aload_n 0, 1) := by decide +kernel
theorem d_X_constantFound_1 : decode b_X_constantFound 1 = .ok (.getfield 28, 3) := by decide +kernel
theorem d_X_constantFound_4 : decode b_X_constantFound 4 = .ok (.invokevirtual 57, 3) := by decide +kernel
theorem d_X_constantFound_7 : decode b_X_constantFound 7 = .ok (.lreturn, 1) := by decide +kernel
theorem d_X_placeFound_0 : decode b_X_placeFound 0 = .ok (.aload_n 0, 1) := by decide +kernel
theorem d_X_placeFound_1 : decode b_X_placeFound 1 = .ok (.getfield 28, 3) := by decide +kernel
theorem d_X_placeFound_4 : decode b_X_placeFound 4 = .ok (.invokevirtual 61, 3) := by decide +kernel
theorem d_X_placeFound_7 : decode b_X_placeFound 7 = .ok (.ireturn, 1) := by decide +kernel
theorem d_X_takenOffFound_0 : decode b_X_takenOffFound 0 = .ok (.aload_n 0, 1) := by decide +kernel
theorem d_X_takenOffFound_1 : decode b_X_takenOffFound 1 = .ok (.getfield 28, 3) := by decide +kernel
theorem d_X_takenOffFound_4 : decode b_X_takenOffFound 4 = .ok (.invokevirtual 65, 3) := by decide +kernel
theorem d_X_takenOffFound_7 : decode b_X_takenOffFound 7 = .ok (.ireturn, 1) := by decide +kernel
theorem d_X_meaningOf_0 : decode b_X_meaningOf 0 = .ok (.iload_n 1, 1) := by decide +kernel
theorem d_X_meaningOf_1 : decode b_X_meaningOf 1 = .ok (.ifCond .lt 21, 3) := by decide +kernel
theorem d_X_meaningOf_4 : decode b_X_meaningOf 4 = .ok (.iload_n 1, 1) := by decide +kernel
theorem d_X_meaningOf_5 : decode b_X_meaningOf 5 = .ok (.aload_n 0, 1) := by decide +kernel
theorem d_X_meaningOf_6 : decode b_X_meaningOf 6 = .ok (.getfield 11, 3) := by decide +kernel
theorem d_X_meaningOf_9 : decode b_X_meaningOf 9 = .ok (.arraylength, 1) := by decide +kernel
theorem d_X_meaningOf_10 : decode b_X_meaningOf 10 = .ok (.if_icmp .ge 12, 3) := by decide +kernel
theorem d_X_meaningOf_13 : decode b_X_meaningOf 13 = .ok (.aload_n 0, 1) := by decide +kernel
theorem d_X_meaningOf_14 : decode b_X_meaningOf 14 = .ok (.getfield 11, 3) := by decide +kernel
theorem d_X_meaningOf_17 : decode b_X_meaningOf 17 = .ok (.iload_n 1, 1) := by decide +kernel
theorem d_X_meaningOf_18 : decode b_X_meaningOf 18 = .ok (.aaload, 1) := by decide +kernel
theorem d_X_meaningOf_19 : decode b_X_meaningOf 19 = .ok (.goto 4, 3) := by decide +kernel
theorem d_X_meaningOf_22 : decode b_X_meaningOf 22 = .ok (.aconst_null, 1) := by decide +kernel
theorem d_X_meaningOf_23 : decode b_X_meaningOf 23 = .ok (.areturn, 1) := by decide +kernel
theorem d_X_isPrefix_0 : decode b_X_isPrefix 0 = .ok (.iload_n 0, 1) := by decide +kernel
theorem d_X_isPrefix_1 : decode b_X_isPrefix 1 = .ok (.bipush 45, 2) := by decide +kernel
theorem d_X_isPrefix_3 : decode b_X_isPrefix 3 = .ok (.if_icmp .eq 15, 3) := by decide +kernel
theorem d_X_isPrefix_6 : decode b_X_isPrefix 6 = .ok (.iload_n 0, 1) := by decide +kernel
theorem d_X_isPrefix_7 : decode b_X_isPrefix 7 = .ok (.bipush 126, 2) := by decide +kernel
theorem d_X_isPrefix_9 : decode b_X_isPrefix 9 = .ok (.if_icmp .eq 9, 3) := by decide +kernel
theorem d_X_isPrefix_12 : decode b_X_isPrefix 12 = .ok (.iload_n 0, 1) := by decide +kernel
theorem d_X_isPrefix_13 : decode b_X_isPrefix 13 = .ok (.bipush 43, 2) := by decide +kernel
theorem d_X_isPrefix_15 : decode b_X_isPrefix 15 = .ok (.if_icmp .ne 7, 3) := by decide +kernel
theorem d_X_isPrefix_18 : decode b_X_isPrefix 18 = .ok (.iconst 1, 1) := by decide +kernel
theorem d_X_isPrefix_19 : decode b_X_isPrefix 19 = .ok (.goto 4, 3) := by decide +kernel
theorem d_X_isPrefix_22 : decode b_X_isPrefix 22 = .ok (.iconst 0, 1) := by decide +kernel
theorem d_X_isPrefix_23 : decode b_X_isPrefix 23 = .ok (.ireturn, 1) := by decide +kernel
theorem d_X_areNamesKnown_0 : decode b_X_areNamesKnown 0 = .ok (.iconst 0, 1) := by decide +kernel
theorem d_X_areNamesKnown_1 : decode b_X_areNamesKnown 1 = .ok (.istore_n 2, 1) := by decide +kernel
theorem d_X_areNamesKnown_2 : decode b_X_areNamesKnown 2 = .ok (.iload_n 2, 1) := by decide +kernel
theorem d_X_areNamesKnown_3 : decode b_X_areNamesKnown 3 = .ok (.aload_n 1, 1) := by decide +kernel
theorem d_X_areNamesKnown_4 : decode b_X_areNamesKnown 4 = .ok (.invokevirtual 68, 3) := by decide +kernel
theorem d_X_areNamesKnown_7 : decode b_X_areNamesKnown 7 = .ok (.if_icmp .ge 28, 3) := by decide +kernel
theorem d_X_areNamesKnown_10 : decode b_X_areNamesKnown 10 = .ok (.aload_n 1, 1) := by decide +kernel
theorem d_X_areNamesKnown_11 : decode b_X_areNamesKnown 11 = .ok (.iload_n 2, 1) := by decide +kernel
theorem d_X_areNamesKnown_12 : decode b_X_areNamesKnown 12 = .ok (.invokevirtual 71, 3) := by decide +kernel
theorem d_X_areNamesKnown_15 : decode b_X_areNamesKnown 15 = .ok (.iconst 1, 1) := by decide +kernel
theorem d_X_areNamesKnown_16 : decode b_X_areNamesKnown 16 = .ok (.if_icmp .ne 13, 3) := by decide +kernel
theorem d_X_areNamesKnown_19 : decode b_X_areNamesKnown 19 = .ok (.aload_n 0, 1) := by decide +kernel
theorem d_X_areNamesKnown_20 : decode b_X_areNamesKnown 20 = .ok (.iload_n 2, 1) := by decide +kernel
theorem d_X_areNamesKnown_21 : decode b_X_areNamesKnown 21 = .ok (.invokevirtual 101, 3) := by decide +kernel
theorem d_X_areNamesKnown_24 : decode b_X_areNamesKnown 24 = .ok (.ifnonnull 5, 3) := by decide +kernel
theorem d_X_areNamesKnown_27 : decode b_X_areNamesKnown 27 = .ok (.iconst 0, 1) := by decide +kernel
theorem d_X_areNamesKnown_28 : decode b_X_areNamesKnown 28 = .ok (.ireturn, 1) := by decide +kernel
theorem d_X_areNamesKnown_29 : decode b_X_areNamesKnown 29 = .ok (.iinc 2 1, 3) := by decide +kernel
theorem d_X_areNamesKnown_32 : decode b_X_areNamesKnown 32 = .ok (.goto (-30), 3) := by decide +kernel
theorem d_X_areNamesKnown_35 : decode b_X_areNamesKnown 35 = .ok (.iconst 1, 1) := by decide +kernel
theorem d_X_areNamesKnown_36 : decode b_X_areNamesKnown 36 = .ok (.ireturn, 1) := by decide +kernel
theorem d_X_rankOf_0 : decode b_X_rankOf 0 = .ok (.iload_n 0, 1) := by decide +kernel
theorem d_X_rankOf_1 : decode b_X_rankOf 1 = .ok (.lookupswitch 104 #[(37, 101), (38, 95), (42, 101), (43, 99), (45, 99), (47, 101), (60, 97), (62, 97), (94, 93), (124, 91)], 91) := by decide +kernel
theorem d_X_rankOf_92 : decode b_X_rankOf 92 = .ok (.iconst 1, 1) := by decide +kernel
theorem d_X_rankOf_93 : decode b_X_rankOf 93 = .ok (.ireturn, 1) := by decide +kernel
theorem d_X_rankOf_94 : decode b_X_rankOf 94 = .ok (.iconst 2, 1) := by decide +kernel
theorem d_X_rankOf_95 : decode b_X_rankOf 95 = .ok (.ireturn, 1) := by decide +kernel
theorem d_X_rankOf_96 : decode b_X_rankOf 96 = .ok (.iconst 3, 1) := by decide +kernel
theorem d_X_rankOf_97 : decode b_X_rankOf 97 = .ok (.ireturn, 1) := by decide +kernel
theorem d_X_rankOf_98 : decode b_X_rankOf 98 = .ok (.iconst 4, 1) := by decide +kernel
theorem d_X_rankOf_99 : decode b_X_rankOf 99 = .ok (.ireturn, 1) := by decide +kernel
theorem d_X_rankOf_100 : decode b_X_rankOf 100 = .ok (.iconst 5, 1) := by decide +kernel
theorem d_X_rankOf_101 : decode b_X_rankOf 101 = .ok (.ireturn, 1) := by decide +kernel
theorem d_X_rankOf_102 : decode b_X_rankOf 102 = .ok (.bipush 6, 2) := by decide +kernel
theorem d_X_rankOf_104 : decode b_X_rankOf 104 = .ok (.ireturn, 1) := by decide +kernel
theorem d_X_rankOf_105 : decode b_X_rankOf 105 = .ok (.iload_n 0, 1) := by decide +kernel
theorem d_X_rankOf_106 : decode b_X_rankOf 106 = .ok (.ifCond .ge 8, 3) := by decide +kernel
theorem d_X_rankOf_109 : decode b_X_rankOf 109 = .ok (.bipush 7, 2) := by decide +kernel
theorem d_X_rankOf_111 : decode b_X_rankOf 111 = .ok (.goto 4, 3) := by decide +kernel
theorem d_X_rankOf_114 : decode b_X_rankOf 114 = .ok (.iconst 0, 1) := by decide +kernel
theorem d_X_rankOf_115 : decode b_X_rankOf 115 = .ok (.ireturn, 1) := by decide +kernel
theorem d_X_letWait_0 : decode b_X_letWait 0 = .ok (.aload_n 0, 1) := by decide +kernel
theorem d_X_letWait_1 : decode b_X_letWait 1 = .ok (.getfield 21, 3) := by decide +kernel
theorem d_X_letWait_4 : decode b_X_letWait 4 = .ok (.aload_n 0, 1) := by decide +kernel
theorem d_X_letWait_5 : decode b_X_letWait 5 = .ok (.getfield 17, 3) := by decide +kernel
theorem d_X_letWait_8 : decode b_X_letWait 8 = .ok (.arraylength, 1) := by decide +kernel
theorem d_X_letWait_9 : decode b_X_letWait 9 = .ok (.if_icmp .ge 24, 3) := by decide +kernel
theorem d_X_letWait_12 : decode b_X_letWait 12 = .ok (.aload_n 0, 1) := by decide +kernel
theorem d_X_letWait_13 : decode b_X_letWait 13 = .ok (.getfield 17, 3) := by decide +kernel
theorem d_X_letWait_16 : decode b_X_letWait 16 = .ok (.aload_n 0, 1) := by decide +kernel
theorem d_X_letWait_17 : decode b_X_letWait 17 = .ok (.getfield 21, 3) := by decide +kernel
theorem d_X_letWait_20 : decode b_X_letWait 20 = .ok (.iload_n 1, 1) := by decide +kernel
theorem d_X_letWait_21 : decode b_X_letWait 21 = .ok (.i2b, 1) := by decide +kernel
theorem d_X_letWait_22 : decode b_X_letWait 22 = .ok (.bastore, 1) := by decide +kernel
theorem d_X_letWait_23 : decode b_X_letWait 23 = .ok (.aload_n 0, 1) := by decide +kernel
theorem d_X_letWait_24 : decode b_X_letWait 24 = .ok (.dup, 1) := by decide +kernel
theorem d_X_letWait_25 : decode b_X_letWait 25 = .ok (.getfield 21, 3) := by decide +kernel
theorem d_X_letWait_28 : decode b_X_letWait 28 = .ok (.iconst 1, 1) := by decide +kernel
theorem d_X_letWait_29 : decode b_X_letWait 29 = .ok (.iadd, 1) := by decide +kernel
theorem d_X_letWait_30 : decode b_X_letWait 30 = .ok (.putfield 21, 3) := by decide +kernel
theorem d_X_letWait_33 : decode b_X_letWait 33 = .ok (.return_, 1) := by decide +kernel
theorem d_X_dropBracket_0 : decode b_X_dropBracket 0 = .ok (.aload_n 0, 1) := by decide +kernel
theorem d_X_dropBracket_1 : decode b_X_dropBracket 1 = .ok (.getfield 21, 3) := by decide +kernel
theorem d_X_dropBracket_4 : decode b_X_dropBracket 4 = .ok (.ifCond .le 13, 3) := by decide +kernel
theorem d_X_dropBracket_7 : decode b_X_dropBracket 7 = .ok (.aload_n 0, 1) := by decide +kernel
theorem d_X_dropBracket_8 : decode b_X_dropBracket 8 = .ok (.dup, 1) := by decide +kernel
theorem d_X_dropBracket_9 : decode b_X_dropBracket 9 = .ok (.getfield 21, 3) := by decide +kernel
theorem d_X_dropBracket_12 : decode b_X_dropBracket 12 = .ok (.iconst 1, 1) := by decide +kernel
theorem d_X_dropBracket_13 : decode b_X_dropBracket 13 = .ok (.isub, 1) := by decide +kernel
theorem d_X_dropBracket_14 : decode b_X_dropBracket 14 = .ok (.putfield 21, 3) := by decide +kernel
theorem d_X_dropBracket_17 : decode b_X_dropBracket 17 = .ok (.return_, 1) := by decide +kernel
theorem d_X_applyWaiting_0 : decode b_X_applyWaiting 0 = .ok (.aload_n 0, 1) := by decide +kernel
theorem d_X_applyWaiting_1 : decode b_X_applyWaiting 1 = .ok (.getfield 21, 3) := by decide +kernel
theorem d_X_applyWaiting_4 : decode b_X_applyWaiting 4 = .ok (.iconst 1, 1) := by decide +kernel
theorem d_X_applyWaiting_5 : decode b_X_applyWaiting 5 = .ok (.isub, 1) := by decide +kernel
theorem d_X_applyWaiting_6 : decode b_X_applyWaiting 6 = .ok (.istore_n 2, 1) := by decide +kernel
theorem d_X_applyWaiting_7 : decode b_X_applyWaiting 7 = .ok (.iload_n 2, 1) := by decide +kernel
theorem d_X_applyWaiting_8 : decode b_X_applyWaiting 8 = .ok (.ifCond .lt 58, 3) := by decide +kernel
theorem d_X_applyWaiting_11 : decode b_X_applyWaiting 11 = .ok (.aload_n 0, 1) := by decide +kernel
theorem d_X_applyWaiting_12 : decode b_X_applyWaiting 12 = .ok (.getfield 17, 3) := by decide +kernel
theorem d_X_applyWaiting_15 : decode b_X_applyWaiting 15 = .ok (.iload_n 2, 1) := by decide +kernel
theorem d_X_applyWaiting_16 : decode b_X_applyWaiting 16 = .ok (.baload, 1) := by decide +kernel
theorem d_X_applyWaiting_17 : decode b_X_applyWaiting 17 = .ok (.invokestatic 98, 3) := by decide +kernel
theorem d_X_applyWaiting_20 : decode b_X_applyWaiting 20 = .ok (.iload_n 1, 1) := by decide +kernel
theorem d_X_applyWaiting_21 : decode b_X_applyWaiting 21 = .ok (.if_icmp .lt 45, 3) := by decide +kernel
theorem d_X_applyWaiting_24 : decode b_X_applyWaiting 24 = .ok (.aload_n 0, 1) := by decide +kernel
theorem d_X_applyWaiting_25 : decode b_X_applyWaiting 25 = .ok (.getfield 17, 3) := by decide +kernel
theorem d_X_applyWaiting_28 : decode b_X_applyWaiting 28 = .ok (.iload_n 2, 1) := by decide +kernel
theorem d_X_applyWaiting_29 : decode b_X_applyWaiting 29 = .ok (.baload, 1) := by decide +kernel
theorem d_X_applyWaiting_30 : decode b_X_applyWaiting 30 = .ok (.istore_n 3, 1) := by decide +kernel
theorem d_X_applyWaiting_31 : decode b_X_applyWaiting 31 = .ok (.iload_n 3, 1) := by decide +kernel
theorem d_X_applyWaiting_32 : decode b_X_applyWaiting 32 = .ok (.ifCond .ge 15, 3) := by decide +kernel
theorem d_X_applyWaiting_35 : decode b_X_applyWaiting 35 = .ok (.aload_n 0, 1) := by decide +kernel
theorem d_X_applyWaiting_36 : decode b_X_applyWaiting 36 = .ok (.getfield 28, 3) := by decide +kernel
theorem d_X_applyWaiting_39 : decode b_X_applyWaiting 39 = .ok (.iload_n 3, 1) := by decide +kernel
theorem d_X_applyWaiting_40 : decode b_X_applyWaiting 40 = .ok (.ineg, 1) := by decide +kernel
theorem d_X_applyWaiting_41 : decode b_X_applyWaiting 41 = .ok (.invokevirtual 141, 3) := by decide +kernel
theorem d_X_applyWaiting_44 : decode b_X_applyWaiting 44 = .ok (.goto 11, 3) := by decide +kernel
theorem d_X_applyWaiting_47 : decode b_X_applyWaiting 47 = .ok (.aload_n 0, 1) := by decide +kernel
theorem d_X_applyWaiting_48 : decode b_X_applyWaiting 48 = .ok (.getfield 28, 3) := by decide +kernel
theorem d_X_applyWaiting_51 : decode b_X_applyWaiting 51 = .ok (.iload_n 3, 1) := by decide +kernel
theorem d_X_applyWaiting_52 : decode b_X_applyWaiting 52 = .ok (.invokevirtual 144, 3) := by decide +kernel
theorem d_X_applyWaiting_55 : decode b_X_applyWaiting 55 = .ok (.aload_n 0, 1) := by decide +kernel
theorem d_X_applyWaiting_56 : decode b_X_applyWaiting 56 = .ok (.iload_n 2, 1) := by decide +kernel
theorem d_X_applyWaiting_57 : decode b_X_applyWaiting 57 = .ok (.putfield 21, 3) := by decide +kernel
theorem d_X_applyWaiting_60 : decode b_X_applyWaiting 60 = .ok (.iinc 2 (-1), 3) := by decide +kernel
theorem d_X_applyWaiting_63 : decode b_X_applyWaiting 63 = .ok (.goto (-56), 3) := by decide +kernel
theorem d_X_applyWaiting_66 : decode b_X_applyWaiting 66 = .ok (.return_, 1) := by decide +kernel
theorem wb_135 : Cond.fieldLink R_X 28 R_X "values" "LExpressionReader$Values;" ∈ WB := wbm (i := 173) (by decide +kernel) rfl
theorem wb_136 : Cond.methodLink R_X 57 y_V_constantOfFirst ∈ WB := wbm (i := 842) (by decide +kernel) rfl
theorem wb_137 : Cond.code y_V_constantOfFirst b_V_constantOfFirst 1 (some .long) ∈ WB := wbm (i := 845) (by decide +kernel) rfl
theorem wb_138 : Cond.instanceMethod y_V_constantOfFirst ∈ WB := wbm (i := 843) (by decide +kernel) rfl
theorem wb_139 : Cond.selects R_V y_V_constantOfFirst y_V_constantOfFirst ∈ WB := wbm (i := 844) (by decide +kernel) rfl
theorem wb_140 : Cond.methodLink R_X 61 y_V_placeOfFirst ∈ WB := wbm (i := 850) (by decide +kernel) rfl
theorem wb_141 : Cond.code y_V_placeOfFirst b_V_placeOfFirst 1 (some .int) ∈ WB := wbm (i := 853) (by decide +kernel) rfl
theorem wb_142 : Cond.instanceMethod y_V_placeOfFirst ∈ WB := wbm (i := 851) (by decide +kernel) rfl
theorem wb_143 : Cond.selects R_V y_V_placeOfFirst y_V_placeOfFirst ∈ WB := wbm (i := 852) (by decide +kernel) rfl
theorem wb_144 : Cond.methodLink R_X 65 y_V_takenOffOfFirst ∈ WB := wbm (i := 858) (by decide +kernel) rfl
theorem wb_145 : Cond.code y_V_takenOffOfFirst b_V_takenOffOfFirst 1 (some .int) ∈ WB := wbm (i := 861) (by decide +kernel) rfl
theorem wb_146 : Cond.instanceMethod y_V_takenOffOfFirst ∈ WB := wbm (i := 859) (by decide +kernel) rfl
theorem wb_147 : Cond.selects R_V y_V_takenOffOfFirst y_V_takenOffOfFirst ∈ WB := wbm (i := 860) (by decide +kernel) rfl
theorem wb_148 : Cond.fieldLink R_X 11 R_X "meant" "[LExpressionReader$Name;" ∈ WB := wbm (i := 170) (by decide +kernel) rfl
theorem wb_149 : Cond.methodLink R_X 68 y_T_size ∈ WB := wbm (i := 730) (by decide +kernel) rfl
theorem wb_150 : Cond.code y_T_size b_T_size 1 (some .int) ∈ WB := wbm (i := 733) (by decide +kernel) rfl
theorem wb_151 : Cond.instanceMethod y_T_size ∈ WB := wbm (i := 731) (by decide +kernel) rfl
theorem wb_152 : Cond.selects R_T y_T_size y_T_size ∈ WB := wbm (i := 732) (by decide +kernel) rfl
theorem wb_153 : Cond.methodLink R_X 71 y_T_kindOf ∈ WB := wbm (i := 734) (by decide +kernel) rfl
theorem wb_154 : Cond.methodLink R_X 101 y_X_meaningOf ∈ WB := wbm (i := 754) (by decide +kernel) rfl
theorem wb_155 : Cond.code y_X_meaningOf b_X_meaningOf 2 (some (.object "ExpressionReader$Name")) ∈ WB := wbm (i := 757) (by decide +kernel) rfl
theorem wb_156 : Cond.instanceMethod y_X_meaningOf ∈ WB := wbm (i := 756) (by decide +kernel) rfl
theorem wb_157 : Cond.selects R_X y_X_meaningOf y_X_meaningOf ∈ WB := wbm (i := 14) (by decide +kernel) rfl
theorem wb_158 : Cond.initialized R_X ∈ WB := wbm (i := 54) (by decide +kernel) rfl
theorem wb_159 : Cond.fieldLink R_X 21 R_X "waitingCount" "I" ∈ WB := wbm (i := 172) (by decide +kernel) rfl
theorem wb_160 : Cond.fieldLink R_X 17 R_X "waiting" "[B" ∈ WB := wbm (i := 171) (by decide +kernel) rfl
theorem wb_161 : Cond.methodLink R_X 98 y_X_rankOf ∈ WB := wbm (i := 761) (by decide +kernel) rfl
theorem wb_162 : Cond.code y_X_rankOf b_X_rankOf 1 (some .int) ∈ WB := wbm (i := 763) (by decide +kernel) rfl
theorem wb_163 : Cond.static y_X_rankOf ∈ WB := wbm (i := 762) (by decide +kernel) rfl
theorem wb_164 : Cond.methodLink R_X 144 y_V_applyBetween ∈ WB := wbm (i := 802) (by decide +kernel) rfl
theorem wb_165 : Cond.code y_V_applyBetween b_V_applyBetween 4 none ∈ WB := wbm (i := 805) (by decide +kernel) rfl
theorem wb_166 : Cond.instanceMethod y_V_applyBetween ∈ WB := wbm (i := 803) (by decide +kernel) rfl
theorem wb_167 : Cond.selects R_V y_V_applyBetween y_V_applyBetween ∈ WB := wbm (i := 804) (by decide +kernel) rfl
theorem wb_168 : Cond.methodLink R_X 141 y_V_applyInFront ∈ WB := wbm (i := 793) (by decide +kernel) rfl
theorem wb_169 : Cond.code y_V_applyInFront b_V_applyInFront 3 none ∈ WB := wbm (i := 796) (by decide +kernel) rfl
theorem wb_170 : Cond.instanceMethod y_V_applyInFront ∈ WB := wbm (i := 794) (by decide +kernel) rfl
theorem wb_171 : Cond.selects R_V y_V_applyInFront y_V_applyInFront ∈ WB := wbm (i := 795) (by decide +kernel) rfl
def f_X_constantFound (vc : Nat → Int64) : Option (Int64) := (f_V_constantOfFirst vc).bind (fun o_1 => some (o_1))
set_option maxHeartbeats 4000000 in
set_option maxRecDepth 100000 in
theorem c_X_constantFound (l : Launch) (dC : Nat → ClassId) (dI : Nat → Nat → Nat) (aX aM aY aV aC aP aO : Nat) (cC : ClassId) (sz : Nat) (xn : Int32) (vn : Int32) (vd : Int32) (vc : Nat → Int64) (o : Int64) (hf : f_X_constantFound vc = some o) : Met l y_X_constantFound (w_X_constantFound) ({ frames := 1, cells := 0, slots := 0, locals := 20 }) (va_Pc [.ref aX] (fun U => U.heap.size = sz ∧ va_P (dC, dI) vwCl [(aX, .inr (5, [.ref aM, .ref aY, .int xn, .ref aV])), (aV, .inr (6, [.ref aC, .ref aP, .ref aO, .int vn, .int vd])), (aC, .inl (cC, 512, .inr (.inl vc)))] U.heap ∧ va_K (dC, dI) vwCl [(cC, .long)] U ∧ va_D (fun _ => True) [(aX, .inr (5, [.ref aM, .ref aY, .int xn, .ref aV])), (aV, .inr (6, [.ref aC, .ref aP, .ref aO, .int vn, .int vd])), (aC, .inl (cC, 512, .inr (.inl vc)))] ∧ NW U)) (va_Ql (fun (r : Int64) (_ : Unit) => r = o) (fun _ t => va_P (dC, dI) vwCl [(aX, .inr (5, [.ref aM, .ref aY, .int xn, .ref aV])), (aV, .inr (6, [.ref aC, .ref aP, .ref aO, .int vn, .int vd])), (aC, .inl (cC, 512, .inr (.inl vc)))] t.heap ∧ va_K (dC, dI) vwCl [(cC, .long)] t ∧ va_D (va_A [(aX, .inr (5, [.ref aM, .ref aY, .int xn, .ref aV])), (aV, .inr (6, [.ref aC, .ref aP, .ref aO, .int vn, .int vd])), (aC, .inl (cC, 512, .inr (.inl vc)))] sz) [(aX, .inr (5, [.ref aM, .ref aY, .int xn, .ref aV])), (aV, .inr (6, [.ref aC, .ref aP, .ref aO, .int vn, .int vd])), (aC, .inl (cC, 512, .inr (.inl vc)))]) (va_A [(aX, .inr (5, [.ref aM, .ref aY, .int xn, .ref aV])), (aV, .inr (6, [.ref aC, .ref aP, .ref aO, .int vn, .int vd])), (aC, .inl (cC, 512, .inr (.inl vc)))] sz)) 0 0 (va_A [(aX, .inr (5, [.ref aM, .ref aY, .int xn, .ref aV])), (aV, .inr (6, [.ref aC, .ref aP, .ref aO, .int vn, .int vd])), (aC, .inl (cC, 512, .inr (.inl vc)))] sz) := by
  refine Met.ofW (cc := b_X_constantFound) (maxL := 1) (ret := (some .long)) (by decide) rfl ?_
  intro p e s m args below meth c s₁ B hml hv
  obtain ⟨rfl, hsz, hP, hK, hD0, hN⟩ := hv
  have hx := B.exec
  have hb := B.bytes
  have hr := B.returns
  have hts : ∀ w ∈ WB, w.before _ s = true := fun w h => atoms_spec (ws := w_X_constantFound) B.pre w (List.mem_cons_of_mem _ h)
  have hown : s.vm.findClass R_X = some m.cls := findClass_of_methodNamed B.named
  have hlocks := B.notSynchronized
  subst hsz
  have hD := hD0.self (sz := s.heap.size)
  generalize hAe : va_A [(aX, .inr (5, [.ref aM, .ref aY, .int xn, .ref aV])), (aV, .inr (6, [.ref aC, .ref aP, .ref aO, .int vn, .int vd])), (aC, .inl (cC, 512, .inr (.inl vc)))] s.heap.size = A at hD ⊢
  have hA : ∀ q : Nat, s.heap.size ≤ q → A q := fun q h => by rw [← hAe]; exact Or.inr h
  have hS : va_S A s.heap s.heap [] := va_S.rf
  have hP : va_P (dC, dI) vwCl [(aX, .inr (5, [.ref aM, .ref aY, .int xn, .ref aV])), (aV, .inr (6, [.ref aC, .ref aP, .ref aO, .int vn, .int vd])), (aC, .inl (cC, 512, .inr (.inl vc)))] s.heap := hP
  have hl := lv_entry [.ref aX] (n := 1) (Nat.le_of_ble_eq_true rfl)
  rw [lg_entry_eq]
  generalize (lg_sl [.ref aX] ++ List.replicate (1 - (lg_sl [.ref aX]).length) Slot.unset).toArray = ls at hl ⊢
  have hl : lv_has ls 1 [(0, .ref aX)] := hl
  rw [f_X_constantFound] at hf
  refine lv_aload_n hx hb d_X_constantFound_0 rfl (lv_at hl 0 rfl) ?_
  refine va_get (D := (dC, dI)) (ci := 5) (v := .ref aV) (C := R_X) (T := F_X) (N := 4) hx hb hts i_X hown hK hP 0 rfl rfl 3 (by decide) (hts _ wb_135) (fun _ h9 => h9) rfl d_X_constantFound_1 ?_
  obtain ⟨o_1, hM_1, hf⟩ := bd_some hf
  refine cr_l (va_runV (As := []) (rest := []) ⟨hx, hb, hml, hown, hts⟩ (c_V_constantOfFirst l dC dI aV aC aP aO cC s.heap.size vn vd vc  o_1 hM_1) (cwV 0 hts (gwV wb_136 wb_138 wb_139 wb_112 wb_137) rfl rfl rfl (by decide +kernel) ⟨Nat.le_of_ble_eq_true rfl, Nat.le_of_ble_eq_true rfl⟩) (pr_V (hP.sub [1, 2] rfl) (hD.sub [1, 2] (by decide) rfl) hK hN [0] rfl (ci := 6) rfl rfl rfl) rfl rfl hl.1 rfl (lv_room (Nat.le_of_ble_eq_true rfl)) d_X_constantFound_4 ⟨Nat.zero_le _, Nat.zero_le _⟩) hP hD hS hA (in_of [1, 2] rfl) (fun r_1 H locs hw hP hS => ?_)
  subst r_1
  have ho := Option.some.inj hf
  subst o
  have hP9 := hP.sub (ws' := [(aX, .inr (5, [.ref aM, .ref aY, .int xn, .ref aV])), (aV, .inr (6, [.ref aC, .ref aP, .ref aO, .int vn, .int vd])), (aC, .inl (cC, 512, .inr (.inl vc)))]) [0, 1, 2] rfl
  have hD9 := hD.sub (ws' := [(aX, .inr (5, [.ref aM, .ref aY, .int xn, .ref aV])), (aV, .inr (6, [.ref aC, .ref aP, .ref aO, .int vn, .int vd])), (aC, .inl (cC, 512, .inr (.inl vc)))]) [0, 1, 2] (by decide) rfl
  exact W.lret (v := o_1) hx hb hr (fun t ht hW => ⟨⟨o_1, (), rfl, rfl, by rw [ht]; exact hP9, va_K.moved hW.alike hK, hD9⟩, hS.F ht⟩) hS.2.2 d_X_constantFound_7

def f_X_placeFound (vp : Nat → Int32) : Option (Int32) := (f_V_placeOfFirst vp).bind (fun o_1 => some (o_1))
set_option maxHeartbeats 4000000 in
set_option maxRecDepth 100000 in
theorem c_X_placeFound (l : Launch) (dC : Nat → ClassId) (dI : Nat → Nat → Nat) (aX aM aY aV aC aP aO : Nat) (cP : ClassId) (sz : Nat) (xn : Int32) (vn : Int32) (vd : Int32) (vp : Nat → Int32) (o : Int32) (hf : f_X_placeFound vp = some o) : Met l y_X_placeFound (w_X_placeFound) ({ frames := 1, cells := 0, slots := 0, locals := 20 }) (va_Pc [.ref aX] (fun U => U.heap.size = sz ∧ va_P (dC, dI) vwCl [(aX, .inr (5, [.ref aM, .ref aY, .int xn, .ref aV])), (aV, .inr (6, [.ref aC, .ref aP, .ref aO, .int vn, .int vd])), (aP, .inl (cP, 512, .inl vp))] U.heap ∧ va_K (dC, dI) vwCl [(cP, .int)] U ∧ va_D (fun _ => True) [(aX, .inr (5, [.ref aM, .ref aY, .int xn, .ref aV])), (aV, .inr (6, [.ref aC, .ref aP, .ref aO, .int vn, .int vd])), (aP, .inl (cP, 512, .inl vp))] ∧ NW U)) (va_Qi (fun (r : Int32) (_ : Unit) => r = o) (fun _ t => va_P (dC, dI) vwCl [(aX, .inr (5, [.ref aM, .ref aY, .int xn, .ref aV])), (aV, .inr (6, [.ref aC, .ref aP, .ref aO, .int vn, .int vd])), (aP, .inl (cP, 512, .inl vp))] t.heap ∧ va_K (dC, dI) vwCl [(cP, .int)] t ∧ va_D (va_A [(aX, .inr (5, [.ref aM, .ref aY, .int xn, .ref aV])), (aV, .inr (6, [.ref aC, .ref aP, .ref aO, .int vn, .int vd])), (aP, .inl (cP, 512, .inl vp))] sz) [(aX, .inr (5, [.ref aM, .ref aY, .int xn, .ref aV])), (aV, .inr (6, [.ref aC, .ref aP, .ref aO, .int vn, .int vd])), (aP, .inl (cP, 512, .inl vp))]) (va_A [(aX, .inr (5, [.ref aM, .ref aY, .int xn, .ref aV])), (aV, .inr (6, [.ref aC, .ref aP, .ref aO, .int vn, .int vd])), (aP, .inl (cP, 512, .inl vp))] sz)) 0 0 (va_A [(aX, .inr (5, [.ref aM, .ref aY, .int xn, .ref aV])), (aV, .inr (6, [.ref aC, .ref aP, .ref aO, .int vn, .int vd])), (aP, .inl (cP, 512, .inl vp))] sz) := by
  refine Met.ofW (cc := b_X_placeFound) (maxL := 1) (ret := (some .int)) (by decide) rfl ?_
  intro p e s m args below meth c s₁ B hml hv
  obtain ⟨rfl, hsz, hP, hK, hD0, hN⟩ := hv
  have hx := B.exec
  have hb := B.bytes
  have hr := B.returns
  have hts : ∀ w ∈ WB, w.before _ s = true := fun w h => atoms_spec (ws := w_X_placeFound) B.pre w (List.mem_cons_of_mem _ h)
  have hown : s.vm.findClass R_X = some m.cls := findClass_of_methodNamed B.named
  have hlocks := B.notSynchronized
  subst hsz
  have hD := hD0.self (sz := s.heap.size)
  generalize hAe : va_A [(aX, .inr (5, [.ref aM, .ref aY, .int xn, .ref aV])), (aV, .inr (6, [.ref aC, .ref aP, .ref aO, .int vn, .int vd])), (aP, .inl (cP, 512, .inl vp))] s.heap.size = A at hD ⊢
  have hA : ∀ q : Nat, s.heap.size ≤ q → A q := fun q h => by rw [← hAe]; exact Or.inr h
  have hS : va_S A s.heap s.heap [] := va_S.rf
  have hP : va_P (dC, dI) vwCl [(aX, .inr (5, [.ref aM, .ref aY, .int xn, .ref aV])), (aV, .inr (6, [.ref aC, .ref aP, .ref aO, .int vn, .int vd])), (aP, .inl (cP, 512, .inl vp))] s.heap := hP
  have hl := lv_entry [.ref aX] (n := 1) (Nat.le_of_ble_eq_true rfl)
  rw [lg_entry_eq]
  generalize (lg_sl [.ref aX] ++ List.replicate (1 - (lg_sl [.ref aX]).length) Slot.unset).toArray = ls at hl ⊢
  have hl : lv_has ls 1 [(0, .ref aX)] := hl
  rw [f_X_placeFound] at hf
  refine lv_aload_n hx hb d_X_placeFound_0 rfl (lv_at hl 0 rfl) ?_
  refine va_get (D := (dC, dI)) (ci := 5) (v := .ref aV) (C := R_X) (T := F_X) (N := 4) hx hb hts i_X hown hK hP 0 rfl rfl 3 (by decide) (hts _ wb_135) (fun _ h9 => h9) rfl d_X_placeFound_1 ?_
  obtain ⟨o_1, hM_1, hf⟩ := bd_some hf
  refine cr_i (va_runV (As := []) (rest := []) ⟨hx, hb, hml, hown, hts⟩ (c_V_placeOfFirst l dC dI aV aC aP aO cP s.heap.size vn vd vp  o_1 hM_1) (cwV 0 hts (gwV wb_140 wb_142 wb_143 wb_112 wb_141) rfl rfl rfl (by decide +kernel) ⟨Nat.le_of_ble_eq_true rfl, Nat.le_of_ble_eq_true rfl⟩) (pr_V (hP.sub [1, 2] rfl) (hD.sub [1, 2] (by decide) rfl) hK hN [0] rfl (ci := 6) rfl rfl rfl) rfl rfl hl.1 rfl (lv_room (Nat.le_of_ble_eq_true rfl)) d_X_placeFound_4 ⟨Nat.zero_le _, Nat.zero_le _⟩) hP hD hS hA (in_of [1, 2] rfl) (fun r_1 H locs hw hP hS => ?_)
  subst r_1
  have ho := Option.some.inj hf
  subst o
  have hP9 := hP.sub (ws' := [(aX, .inr (5, [.ref aM, .ref aY, .int xn, .ref aV])), (aV, .inr (6, [.ref aC, .ref aP, .ref aO, .int vn, .int vd])), (aP, .inl (cP, 512, .inl vp))]) [0, 1, 2] rfl
  have hD9 := hD.sub (ws' := [(aX, .inr (5, [.ref aM, .ref aY, .int xn, .ref aV])), (aV, .inr (6, [.ref aC, .ref aP, .ref aO, .int vn, .int vd])), (aP, .inl (cP, 512, .inl vp))]) [0, 1, 2] (by decide) rfl
  exact W.iret (v := o_1) hx hb hr (fun t ht hW => ⟨⟨o_1, (), rfl, rfl, by rw [ht]; exact hP9, va_K.moved hW.alike hK, hD9⟩, hS.F ht⟩) hS.2.2 d_X_placeFound_7

def f_X_takenOffFound (vo : Nat → Int32) : Option (Int32) := (f_V_takenOffOfFirst vo).bind (fun o_1 => some (o_1))
set_option maxHeartbeats 4000000 in
set_option maxRecDepth 100000 in
theorem c_X_takenOffFound (l : Launch) (dC : Nat → ClassId) (dI : Nat → Nat → Nat) (aX aM aY aV aC aP aO : Nat) (cO : ClassId) (sz : Nat) (xn : Int32) (vn : Int32) (vd : Int32) (vo : Nat → Int32) (o : Int32) (hf : f_X_takenOffFound vo = some o) : Met l y_X_takenOffFound (w_X_takenOffFound) ({ frames := 1, cells := 0, slots := 0, locals := 20 }) (va_Pc [.ref aX] (fun U => U.heap.size = sz ∧ va_P (dC, dI) vwCl [(aX, .inr (5, [.ref aM, .ref aY, .int xn, .ref aV])), (aV, .inr (6, [.ref aC, .ref aP, .ref aO, .int vn, .int vd])), (aO, .inl (cO, 512, .inl vo))] U.heap ∧ va_K (dC, dI) vwCl [(cO, .int)] U ∧ va_D (fun _ => True) [(aX, .inr (5, [.ref aM, .ref aY, .int xn, .ref aV])), (aV, .inr (6, [.ref aC, .ref aP, .ref aO, .int vn, .int vd])), (aO, .inl (cO, 512, .inl vo))] ∧ NW U)) (va_Qi (fun (r : Int32) (_ : Unit) => r = o) (fun _ t => va_P (dC, dI) vwCl [(aX, .inr (5, [.ref aM, .ref aY, .int xn, .ref aV])), (aV, .inr (6, [.ref aC, .ref aP, .ref aO, .int vn, .int vd])), (aO, .inl (cO, 512, .inl vo))] t.heap ∧ va_K (dC, dI) vwCl [(cO, .int)] t ∧ va_D (va_A [(aX, .inr (5, [.ref aM, .ref aY, .int xn, .ref aV])), (aV, .inr (6, [.ref aC, .ref aP, .ref aO, .int vn, .int vd])), (aO, .inl (cO, 512, .inl vo))] sz) [(aX, .inr (5, [.ref aM, .ref aY, .int xn, .ref aV])), (aV, .inr (6, [.ref aC, .ref aP, .ref aO, .int vn, .int vd])), (aO, .inl (cO, 512, .inl vo))]) (va_A [(aX, .inr (5, [.ref aM, .ref aY, .int xn, .ref aV])), (aV, .inr (6, [.ref aC, .ref aP, .ref aO, .int vn, .int vd])), (aO, .inl (cO, 512, .inl vo))] sz)) 0 0 (va_A [(aX, .inr (5, [.ref aM, .ref aY, .int xn, .ref aV])), (aV, .inr (6, [.ref aC, .ref aP, .ref aO, .int vn, .int vd])), (aO, .inl (cO, 512, .inl vo))] sz) := by
  refine Met.ofW (cc := b_X_takenOffFound) (maxL := 1) (ret := (some .int)) (by decide) rfl ?_
  intro p e s m args below meth c s₁ B hml hv
  obtain ⟨rfl, hsz, hP, hK, hD0, hN⟩ := hv
  have hx := B.exec
  have hb := B.bytes
  have hr := B.returns
  have hts : ∀ w ∈ WB, w.before _ s = true := fun w h => atoms_spec (ws := w_X_takenOffFound) B.pre w (List.mem_cons_of_mem _ h)
  have hown : s.vm.findClass R_X = some m.cls := findClass_of_methodNamed B.named
  have hlocks := B.notSynchronized
  subst hsz
  have hD := hD0.self (sz := s.heap.size)
  generalize hAe : va_A [(aX, .inr (5, [.ref aM, .ref aY, .int xn, .ref aV])), (aV, .inr (6, [.ref aC, .ref aP, .ref aO, .int vn, .int vd])), (aO, .inl (cO, 512, .inl vo))] s.heap.size = A at hD ⊢
  have hA : ∀ q : Nat, s.heap.size ≤ q → A q := fun q h => by rw [← hAe]; exact Or.inr h
  have hS : va_S A s.heap s.heap [] := va_S.rf
  have hP : va_P (dC, dI) vwCl [(aX, .inr (5, [.ref aM, .ref aY, .int xn, .ref aV])), (aV, .inr (6, [.ref aC, .ref aP, .ref aO, .int vn, .int vd])), (aO, .inl (cO, 512, .inl vo))] s.heap := hP
  have hl := lv_entry [.ref aX] (n := 1) (Nat.le_of_ble_eq_true rfl)
  rw [lg_entry_eq]
  generalize (lg_sl [.ref aX] ++ List.replicate (1 - (lg_sl [.ref aX]).length) Slot.unset).toArray = ls at hl ⊢
  have hl : lv_has ls 1 [(0, .ref aX)] := hl
  rw [f_X_takenOffFound] at hf
  refine lv_aload_n hx hb d_X_takenOffFound_0 rfl (lv_at hl 0 rfl) ?_
  refine va_get (D := (dC, dI)) (ci := 5) (v := .ref aV) (C := R_X) (T := F_X) (N := 4) hx hb hts i_X hown hK hP 0 rfl rfl 3 (by decide) (hts _ wb_135) (fun _ h9 => h9) rfl d_X_takenOffFound_1 ?_
  obtain ⟨o_1, hM_1, hf⟩ := bd_some hf
  refine cr_i (va_runV (As := []) (rest := []) ⟨hx, hb, hml, hown, hts⟩ (c_V_takenOffOfFirst l dC dI aV aC aP aO cO s.heap.size vn vd vo  o_1 hM_1) (cwV 0 hts (gwV wb_144 wb_146 wb_147 wb_112 wb_145) rfl rfl rfl (by decide +kernel) ⟨Nat.le_of_ble_eq_true rfl, Nat.le_of_ble_eq_true rfl⟩) (pr_V (hP.sub [1, 2] rfl) (hD.sub [1, 2] (by decide) rfl) hK hN [0] rfl (ci := 6) rfl rfl rfl) rfl rfl hl.1 rfl (lv_room (Nat.le_of_ble_eq_true rfl)) d_X_takenOffFound_4 ⟨Nat.zero_le _, Nat.zero_le _⟩) hP hD hS hA (in_of [1, 2] rfl) (fun r_1 H locs hw hP hS => ?_)
  subst r_1
  have ho := Option.some.inj hf
  subst o
  have hP9 := hP.sub (ws' := [(aX, .inr (5, [.ref aM, .ref aY, .int xn, .ref aV])), (aV, .inr (6, [.ref aC, .ref aP, .ref aO, .int vn, .int vd])), (aO, .inl (cO, 512, .inl vo))]) [0, 1, 2] rfl
  have hD9 := hD.sub (ws' := [(aX, .inr (5, [.ref aM, .ref aY, .int xn, .ref aV])), (aV, .inr (6, [.ref aC, .ref aP, .ref aO, .int vn, .int vd])), (aO, .inl (cO, 512, .inl vo))]) [0, 1, 2] (by decide) rfl
  exact W.iret (v := o_1) hx hb hr (fun t ht hW => ⟨⟨o_1, (), rfl, rfl, by rw [ht]; exact hP9, va_K.moved hW.alike hK, hD9⟩, hS.F ht⟩) hS.2.2 d_X_takenOffFound_7

def f_X_meaningOf (xm : Nat → Option Nat) (p0 : Int32) : Option (Option Nat) := if p0 < (0 : Int32) then some (none) else if (1024 : Int32) ≤ p0 then some (none) else gi p0 1024 (oc (xm p0.toNatClampNeg) (some (none)) (fun z_3 => some (some z_3)))
set_option maxHeartbeats 4000000 in
set_option maxRecDepth 100000 in
theorem c_X_meaningOf (l : Launch) (dC : Nat → ClassId) (dI : Nat → Nat → Nat) (aX aM aY aV aC aP aO : Nat) (cM : ClassId) (sz : Nat) (xn : Int32) (xm : Nat → Option Nat) (p0 : Int32) (o : Option Nat) (hf : f_X_meaningOf xm p0 = some o) : Met l y_X_meaningOf (w_X_meaningOf) ({ frames := 0, cells := 0, slots := 0, locals := 0 }) (va_Pc [.ref aX, .int p0] (fun U => U.heap.size = sz ∧ va_P (dC, dI) vwCl [(aX, .inr (5, [.ref aM, .ref aY, .int xn, .ref aV])), (aM, .inl (cM, 1024, .inr (.inr (.inr (.inr xm)))))] U.heap ∧ va_K (dC, dI) vwCl [(cM, (.object "ExpressionReader$Name"))] U ∧ va_D (fun _ => True) [(aX, .inr (5, [.ref aM, .ref aY, .int xn, .ref aV])), (aM, .inl (cM, 1024, .inr (.inr (.inr (.inr xm)))))] ∧ NW U)) (va_Qq (fun (r : Option Nat) (_ : Unit) => r = o) (fun _ t => va_P (dC, dI) vwCl [(aX, .inr (5, [.ref aM, .ref aY, .int xn, .ref aV])), (aM, .inl (cM, 1024, .inr (.inr (.inr (.inr xm)))))] t.heap ∧ va_K (dC, dI) vwCl [(cM, (.object "ExpressionReader$Name"))] t ∧ va_D (va_A [(aX, .inr (5, [.ref aM, .ref aY, .int xn, .ref aV])), (aM, .inl (cM, 1024, .inr (.inr (.inr (.inr xm)))))] sz) [(aX, .inr (5, [.ref aM, .ref aY, .int xn, .ref aV])), (aM, .inl (cM, 1024, .inr (.inr (.inr (.inr xm)))))]) (va_A [(aX, .inr (5, [.ref aM, .ref aY, .int xn, .ref aV])), (aM, .inl (cM, 1024, .inr (.inr (.inr (.inr xm)))))] sz)) 0 0 (va_A [(aX, .inr (5, [.ref aM, .ref aY, .int xn, .ref aV])), (aM, .inl (cM, 1024, .inr (.inr (.inr (.inr xm)))))] sz) := by
  refine Met.ofW (cc := b_X_meaningOf) (maxL := 2) (ret := (some (.object "ExpressionReader$Name"))) (by decide) rfl ?_
  intro p e s m args below meth c s₁ B hml hv
  obtain ⟨rfl, hsz, hP, hK, hD0, hN⟩ := hv
  have hx := B.exec
  have hb := B.bytes
  have hr := B.returns
  have hts : ∀ w ∈ WB, w.before _ s = true := fun w h => atoms_spec (ws := w_X_meaningOf) B.pre w (List.mem_cons_of_mem _ h)
  have hown : s.vm.findClass R_X = some m.cls := findClass_of_methodNamed B.named
  have hlocks := B.notSynchronized
  subst hsz
  have hD := hD0.self (sz := s.heap.size)
  generalize hAe : va_A [(aX, .inr (5, [.ref aM, .ref aY, .int xn, .ref aV])), (aM, .inl (cM, 1024, .inr (.inr (.inr (.inr xm)))))] s.heap.size = A at hD ⊢
  have hA : ∀ q : Nat, s.heap.size ≤ q → A q := fun q h => by rw [← hAe]; exact Or.inr h
  have hS : va_S A s.heap s.heap [] := va_S.rf
  have hP : va_P (dC, dI) vwCl [(aX, .inr (5, [.ref aM, .ref aY, .int xn, .ref aV])), (aM, .inl (cM, 1024, .inr (.inr (.inr (.inr xm)))))] s.heap := hP
  have hl := lv_entry [.ref aX, .int p0] (n := 2) (Nat.le_of_ble_eq_true rfl)
  rw [lg_entry_eq]
  generalize (lg_sl [.ref aX, .int p0] ++ List.replicate (2 - (lg_sl [.ref aX, .int p0]).length) Slot.unset).toArray = ls at hl ⊢
  have hl : lv_has ls 2 [(0, .ref aX), (1, .int p0)] := hl
  rw [f_X_meaningOf] at hf
  refine lv_iload_n hx hb d_X_meaningOf_0 rfl (lv_at hl 1 rfl) ?_
  refine lv_if_lt (tgt := 22) hx hb d_X_meaningOf_1 (by decide) (fun c_1 => ?_) (fun c_1 => ?_)
  · rw [if_pos c_1] at hf
    refine lv_null hx hb d_X_meaningOf_22 ?_
    have ho := Option.some.inj hf
    subst o
    have hP9 := hP.sub (ws' := [(aX, .inr (5, [.ref aM, .ref aY, .int xn, .ref aV])), (aM, .inl (cM, 1024, .inr (.inr (.inr (.inr xm)))))]) [0, 1] rfl
    have hD9 := hD.sub (ws' := [(aX, .inr (5, [.ref aM, .ref aY, .int xn, .ref aV])), (aM, .inl (cM, 1024, .inr (.inr (.inr (.inr xm)))))]) [0, 1] (by decide) rfl
    exact W.aret (v := .null) hx hb hr (Or.inl ⟨_, rfl⟩) (Or.inl rfl) (fun t ht hW => ⟨⟨none, (), rfl, rfl, by rw [ht]; exact hP9, va_K.moved hW.alike hK, hD9⟩, hS.F ht⟩) hS.2.2 d_X_meaningOf_23
  · rw [if_neg c_1] at hf
    refine lv_iload_n hx hb d_X_meaningOf_4 rfl (lv_at hl 1 rfl) ?_
    refine lv_aload_n hx hb d_X_meaningOf_5 rfl (lv_at hl 0 rfl) ?_
    refine va_get (D := (dC, dI)) (ci := 5) (v := .ref aM) (C := R_X) (T := F_X) (N := 4) hx hb hts i_X hown hK hP 0 rfl rfl 0 (by decide) (hts _ wb_148) (fun _ h9 => h9) rfl d_X_meaningOf_6 ?_
    refine va_alen (v := (1024 : Int32)) hx hb hK hP 1 0 rfl rfl rfl d_X_meaningOf_9 ?_
    refine lv_icmp_ge (tgt := 22) hx hb d_X_meaningOf_10 (by decide) (fun c_2 => ?_) (fun c_2 => ?_)
    · rw [if_pos c_2] at hf
      refine lv_null hx hb d_X_meaningOf_22 ?_
      have ho := Option.some.inj hf
      subst o
      have hP9 := hP.sub (ws' := [(aX, .inr (5, [.ref aM, .ref aY, .int xn, .ref aV])), (aM, .inl (cM, 1024, .inr (.inr (.inr (.inr xm)))))]) [0, 1] rfl
      have hD9 := hD.sub (ws' := [(aX, .inr (5, [.ref aM, .ref aY, .int xn, .ref aV])), (aM, .inl (cM, 1024, .inr (.inr (.inr (.inr xm)))))]) [0, 1] (by decide) rfl
      exact W.aret (v := .null) hx hb hr (Or.inl ⟨_, rfl⟩) (Or.inl rfl) (fun t ht hW => ⟨⟨none, (), rfl, rfl, by rw [ht]; exact hP9, va_K.moved hW.alike hK, hD9⟩, hS.F ht⟩) hS.2.2 d_X_meaningOf_23
    · rw [if_neg c_2] at hf
      refine lv_aload_n hx hb d_X_meaningOf_13 rfl (lv_at hl 0 rfl) ?_
      refine va_get (D := (dC, dI)) (ci := 5) (v := .ref aM) (C := R_X) (T := F_X) (N := 4) hx hb hts i_X hown hK hP 0 rfl rfl 0 (by decide) (hts _ wb_148) (fun _ h9 => h9) rfl d_X_meaningOf_14 ?_
      refine lv_iload_n hx hb d_X_meaningOf_17 rfl (lv_at hl 1 rfl) ?_
      obtain ⟨hin, hf⟩ := gi_some hf
      refine va_aldq hx hb hK hP 1 0 rfl rfl hin d_X_meaningOf_18 ?_
      cases e_3 : xm p0.toNatClampNeg with
      | none =>
        rw [e_3, oc_none] at hf
        refine W.eq (g2 := F0 m 19 ls [.null]) rfl ?_
        refine lv_goto (tgt := 23) hx hb d_X_meaningOf_19 (by decide) ?_
        have ho := Option.some.inj hf
        subst o
        have hP9 := hP.sub (ws' := [(aX, .inr (5, [.ref aM, .ref aY, .int xn, .ref aV])), (aM, .inl (cM, 1024, .inr (.inr (.inr (.inr xm)))))]) [0, 1] rfl
        have hD9 := hD.sub (ws' := [(aX, .inr (5, [.ref aM, .ref aY, .int xn, .ref aV])), (aM, .inl (cM, 1024, .inr (.inr (.inr (.inr xm)))))]) [0, 1] (by decide) rfl
        exact W.aret (v := .null) hx hb hr (Or.inl ⟨_, rfl⟩) (Or.inl rfl) (fun t ht hW => ⟨⟨none, (), rfl, rfl, by rw [ht]; exact hP9, va_K.moved hW.alike hK, hD9⟩, hS.F ht⟩) hS.2.2 d_X_meaningOf_23
      | some z_3 =>
        rw [e_3, oc_some] at hf
        refine W.eq (g2 := F0 m 19 ls [.ref z_3]) rfl ?_
        refine lv_goto (tgt := 23) hx hb d_X_meaningOf_19 (by decide) ?_
        have ho := Option.some.inj hf
        subst o
        have hP9 := hP.sub (ws' := [(aX, .inr (5, [.ref aM, .ref aY, .int xn, .ref aV])), (aM, .inl (cM, 1024, .inr (.inr (.inr (.inr xm)))))]) [0, 1] rfl
        have hD9 := hD.sub (ws' := [(aX, .inr (5, [.ref aM, .ref aY, .int xn, .ref aV])), (aM, .inl (cM, 1024, .inr (.inr (.inr (.inr xm)))))]) [0, 1] (by decide) rfl
        exact W.aret (v := .ref z_3) hx hb hr (Or.inl ⟨_, rfl⟩) (Or.inr ⟨_, rfl⟩) (fun t ht hW => ⟨⟨some z_3, (), rfl, rfl, by rw [ht]; exact hP9, va_K.moved hW.alike hK, hD9⟩, hS.F ht⟩) hS.2.2 d_X_meaningOf_23

def f_X_isPrefix (p0 : Int32) : Option (Int32) := if p0 = (45 : Int32) then some ((1 : Int32)) else if p0 = (126 : Int32) then some ((1 : Int32)) else if p0 = (43 : Int32) then some ((1 : Int32)) else some ((0 : Int32))
set_option maxHeartbeats 4000000 in
set_option maxRecDepth 100000 in
theorem c_X_isPrefix (l : Launch) (dC : Nat → ClassId) (dI : Nat → Nat → Nat) (sz : Nat) (p0 : Int32) (o : Int32) (hf : f_X_isPrefix p0 = some o) : Met l y_X_isPrefix (w_X_isPrefix) ({ frames := 0, cells := 0, slots := 0, locals := 0 }) (va_Pc [.int p0] (fun U => U.heap.size = sz ∧ va_P (dC, dI) vwCl [] U.heap ∧ va_K (dC, dI) vwCl [] U ∧ va_D (fun _ => True) [] ∧ NW U)) (va_Qi (fun (r : Int32) (_ : Unit) => r = o ∧ narrow .boolean (.int r) = .int r) (fun _ t => va_P (dC, dI) vwCl [] t.heap ∧ va_K (dC, dI) vwCl [] t ∧ va_D (va_A [] sz) []) (va_A [] sz)) 0 0 (va_A [] sz) := by
  refine Met.ofW (cc := b_X_isPrefix) (maxL := 1) (ret := (some .boolean)) (by decide) rfl ?_
  intro p e s m args below meth c s₁ B hml hv
  obtain ⟨rfl, hsz, hP, hK, hD0, hN⟩ := hv
  have hx := B.exec
  have hb := B.bytes
  have hr := B.returns
  have hts : ∀ w ∈ WB, w.before _ s = true := fun w h => atoms_spec (ws := w_X_isPrefix) B.pre w (List.mem_cons_of_mem _ h)
  have hown : s.vm.findClass R_X = some m.cls := findClass_of_methodNamed B.named
  have hlocks := B.notSynchronized
  subst hsz
  have hD := hD0.self (sz := s.heap.size)
  generalize hAe : va_A [] s.heap.size = A at hD ⊢
  have hA : ∀ q : Nat, s.heap.size ≤ q → A q := fun q h => by rw [← hAe]; exact Or.inr h
  have hS : va_S A s.heap s.heap [] := va_S.rf
  have hP : va_P (dC, dI) vwCl [] s.heap := hP
  have hl := lv_entry [.int p0] (n := 1) (Nat.le_of_ble_eq_true rfl)
  rw [lg_entry_eq]
  generalize (lg_sl [.int p0] ++ List.replicate (1 - (lg_sl [.int p0]).length) Slot.unset).toArray = ls at hl ⊢
  have hl : lv_has ls 1 [(0, .int p0)] := hl
  rw [f_X_isPrefix] at hf
  refine lv_iload_n hx hb d_X_isPrefix_0 rfl (lv_at hl 0 rfl) ?_
  refine lv_bipush (v := (45 : Int32)) hx hb d_X_isPrefix_1 (by decide) ?_
  refine lv_icmp_eq (tgt := 18) hx hb d_X_isPrefix_3 (by decide) (fun c_1 => ?_) (fun c_1 => ?_)
  · rw [if_pos c_1] at hf
    refine lv_iconst (v := (1 : Int32)) hx hb d_X_isPrefix_18 (by decide) ?_
    refine lv_goto (tgt := 23) hx hb d_X_isPrefix_19 (by decide) ?_
    have ho := Option.some.inj hf
    subst o
    have hP9 := hP.sub (ws' := []) [] rfl
    have hD9 := hD.sub (ws' := []) [] (by decide) rfl
    exact W.zret (v := (1 : Int32)) (ty := .boolean) hx hb hr rfl (fun t ht hW => ⟨⟨(1 : Int32), (), rfl, ⟨rfl, rfl⟩, by rw [ht]; exact hP9, va_K.moved hW.alike hK, hD9⟩, hS.F ht⟩) hS.2.2 d_X_isPrefix_23
  · rw [if_neg c_1] at hf
    refine lv_iload_n hx hb d_X_isPrefix_6 rfl (lv_at hl 0 rfl) ?_
    refine lv_bipush (v := (126 : Int32)) hx hb d_X_isPrefix_7 (by decide) ?_
    refine lv_icmp_eq (tgt := 18) hx hb d_X_isPrefix_9 (by decide) (fun c_2 => ?_) (fun c_2 => ?_)
    · rw [if_pos c_2] at hf
      refine lv_iconst (v := (1 : Int32)) hx hb d_X_isPrefix_18 (by decide) ?_
      refine lv_goto (tgt := 23) hx hb d_X_isPrefix_19 (by decide) ?_
      have ho := Option.some.inj hf
      subst o
      have hP9 := hP.sub (ws' := []) [] rfl
      have hD9 := hD.sub (ws' := []) [] (by decide) rfl
      exact W.zret (v := (1 : Int32)) (ty := .boolean) hx hb hr rfl (fun t ht hW => ⟨⟨(1 : Int32), (), rfl, ⟨rfl, rfl⟩, by rw [ht]; exact hP9, va_K.moved hW.alike hK, hD9⟩, hS.F ht⟩) hS.2.2 d_X_isPrefix_23
    · rw [if_neg c_2] at hf
      refine lv_iload_n hx hb d_X_isPrefix_12 rfl (lv_at hl 0 rfl) ?_
      refine lv_bipush (v := (43 : Int32)) hx hb d_X_isPrefix_13 (by decide) ?_
      refine lv_icmp_ne (tgt := 22) hx hb d_X_isPrefix_15 (by decide) (fun c_3 => ?_) (fun c_3 => ?_)
      · rw [if_neg c_3] at hf
        refine lv_iconst (v := (0 : Int32)) hx hb d_X_isPrefix_22 (by decide) ?_
        have ho := Option.some.inj hf
        subst o
        have hP9 := hP.sub (ws' := []) [] rfl
        have hD9 := hD.sub (ws' := []) [] (by decide) rfl
        exact W.zret (v := (0 : Int32)) (ty := .boolean) hx hb hr rfl (fun t ht hW => ⟨⟨(0 : Int32), (), rfl, ⟨rfl, rfl⟩, by rw [ht]; exact hP9, va_K.moved hW.alike hK, hD9⟩, hS.F ht⟩) hS.2.2 d_X_isPrefix_23
      · rw [if_pos c_3] at hf
        refine lv_iconst (v := (1 : Int32)) hx hb d_X_isPrefix_18 (by decide) ?_
        refine lv_goto (tgt := 23) hx hb d_X_isPrefix_19 (by decide) ?_
        have ho := Option.some.inj hf
        subst o
        have hP9 := hP.sub (ws' := []) [] rfl
        have hD9 := hD.sub (ws' := []) [] (by decide) rfl
        exact W.zret (v := (1 : Int32)) (ty := .boolean) hx hb hr rfl (fun t ht hW => ⟨⟨(1 : Int32), (), rfl, ⟨rfl, rfl⟩, by rw [ht]; exact hP9, va_K.moved hW.alike hK, hD9⟩, hS.F ht⟩) hS.2.2 d_X_isPrefix_23

def f_X_areNamesKnown_l2 : Nat → (Nat → Option Nat) → Int32 → (Nat → Int32) → Int32 → Option (Int32)
  | 0, _, _, _, _ => none
  | n + 1, xm, tn, tk, x2 => (f_T_size tn).bind (fun o_1 => if o_1 ≤ x2 then some ((1 : Int32)) else (f_T_kindOf tn tk x2).bind (fun o_3 => if o_3 = (1 : Int32) then (f_X_meaningOf xm x2).bind (fun o_5 => oc o_5 (some ((0 : Int32))) (fun z_6 => f_X_areNamesKnown_l2 n xm tn tk (x2 + (1 : Int32)))) else f_X_areNamesKnown_l2 n xm tn tk (x2 + (1 : Int32))))
def f_X_areNamesKnown (xm : Nat → Option Nat) (tn : Int32) (tk : Nat → Int32) : Option (Int32) := f_X_areNamesKnown_l2 FU xm tn tk (0 : Int32)
set_option maxHeartbeats 4000000 in
set_option maxRecDepth 100000 in
theorem c_X_areNamesKnown (l : Launch) (dC : Nat → ClassId) (dI : Nat → Nat → Nat) (aX aM aY aV aC aP aO aT aK aG aE aW : Nat) (cM cK : ClassId) (sz : Nat) (xn : Int32) (xm : Nat → Option Nat) (tn : Int32) (ts : Int32) (tk : Nat → Int32) (o : Int32) (hf : f_X_areNamesKnown xm tn tk = some o) : Met l y_X_areNamesKnown (w_X_areNamesKnown) ({ frames := 2, cells := 0, slots := 0, locals := 42 }) (va_Pc [.ref aX, .ref aT] (fun U => U.heap.size = sz ∧ va_P (dC, dI) vwCl [(aX, .inr (5, [.ref aM, .ref aY, .int xn, .ref aV])), (aM, .inl (cM, 1024, .inr (.inr (.inr (.inr xm))))), (aT, .inr (2, [.ref aK, .ref aG, .ref aE, .ref aW, .int tn, .int ts])), (aK, .inl (cK, 1024, .inl tk))] U.heap ∧ va_K (dC, dI) vwCl [(cM, (.object "ExpressionReader$Name")), (cK, .byte)] U ∧ va_D (fun _ => True) [(aX, .inr (5, [.ref aM, .ref aY, .int xn, .ref aV])), (aM, .inl (cM, 1024, .inr (.inr (.inr (.inr xm))))), (aT, .inr (2, [.ref aK, .ref aG, .ref aE, .ref aW, .int tn, .int ts])), (aK, .inl (cK, 1024, .inl tk))] ∧ NW U)) (va_Qi (fun (r : Int32) (_ : Unit) => r = o ∧ narrow .boolean (.int r) = .int r) (fun _ t => va_P (dC, dI) vwCl [(aX, .inr (5, [.ref aM, .ref aY, .int xn, .ref aV])), (aM, .inl (cM, 1024, .inr (.inr (.inr (.inr xm))))), (aT, .inr (2, [.ref aK, .ref aG, .ref aE, .ref aW, .int tn, .int ts])), (aK, .inl (cK, 1024, .inl tk))] t.heap ∧ va_K (dC, dI) vwCl [(cM, (.object "ExpressionReader$Name")), (cK, .byte)] t ∧ va_D (va_A [(aX, .inr (5, [.ref aM, .ref aY, .int xn, .ref aV])), (aM, .inl (cM, 1024, .inr (.inr (.inr (.inr xm))))), (aT, .inr (2, [.ref aK, .ref aG, .ref aE, .ref aW, .int tn, .int ts])), (aK, .inl (cK, 1024, .inl tk))] sz) [(aX, .inr (5, [.ref aM, .ref aY, .int xn, .ref aV])), (aM, .inl (cM, 1024, .inr (.inr (.inr (.inr xm))))), (aT, .inr (2, [.ref aK, .ref aG, .ref aE, .ref aW, .int tn, .int ts])), (aK, .inl (cK, 1024, .inl tk))]) (va_A [(aX, .inr (5, [.ref aM, .ref aY, .int xn, .ref aV])), (aM, .inl (cM, 1024, .inr (.inr (.inr (.inr xm))))), (aT, .inr (2, [.ref aK, .ref aG, .ref aE, .ref aW, .int tn, .int ts])), (aK, .inl (cK, 1024, .inl tk))] sz)) 0 0 (va_A [(aX, .inr (5, [.ref aM, .ref aY, .int xn, .ref aV])), (aM, .inl (cM, 1024, .inr (.inr (.inr (.inr xm))))), (aT, .inr (2, [.ref aK, .ref aG, .ref aE, .ref aW, .int tn, .int ts])), (aK, .inl (cK, 1024, .inl tk))] sz) := by
  refine Met.ofW (cc := b_X_areNamesKnown) (maxL := 3) (ret := (some .boolean)) (by decide) rfl ?_
  intro p e s m args below meth c s₁ B hml hv
  obtain ⟨rfl, hsz, hP, hK, hD0, hN⟩ := hv
  have hx := B.exec
  have hb := B.bytes
  have hr := B.returns
  have hts : ∀ w ∈ WB, w.before _ s = true := fun w h => atoms_spec (ws := w_X_areNamesKnown) B.pre w (List.mem_cons_of_mem _ h)
  have hown : s.vm.findClass R_X = some m.cls := findClass_of_methodNamed B.named
  have hlocks := B.notSynchronized
  subst hsz
  have hD := hD0.self (sz := s.heap.size)
  generalize hAe : va_A [(aX, .inr (5, [.ref aM, .ref aY, .int xn, .ref aV])), (aM, .inl (cM, 1024, .inr (.inr (.inr (.inr xm))))), (aT, .inr (2, [.ref aK, .ref aG, .ref aE, .ref aW, .int tn, .int ts])), (aK, .inl (cK, 1024, .inl tk))] s.heap.size = A at hD ⊢
  have hA : ∀ q : Nat, s.heap.size ≤ q → A q := fun q h => by rw [← hAe]; exact Or.inr h
  have hS : va_S A s.heap s.heap [] := va_S.rf
  have hP : va_P (dC, dI) vwCl [(aX, .inr (5, [.ref aM, .ref aY, .int xn, .ref aV])), (aM, .inl (cM, 1024, .inr (.inr (.inr (.inr xm))))), (aT, .inr (2, [.ref aK, .ref aG, .ref aE, .ref aW, .int tn, .int ts])), (aK, .inl (cK, 1024, .inl tk))] s.heap := hP
  have hl := lv_entry [.ref aX, .ref aT] (n := 3) (Nat.le_of_ble_eq_true rfl)
  rw [lg_entry_eq]
  generalize (lg_sl [.ref aX, .ref aT] ++ List.replicate (3 - (lg_sl [.ref aX, .ref aT]).length) Slot.unset).toArray = ls at hl ⊢
  have hl : lv_has ls 3 [(0, .ref aX), (1, .ref aT)] := hl
  have loop_2 : ∀ (n : Nat) (xm : Nat → Option Nat) (tn : Int32) (tk : Nat → Int32) (x2 : Int32) (H : Heap) (locs : List Loc) (ls : Array Slot), f_X_areNamesKnown_l2 n xm tn tk x2 = some o → va_P (dC, dI) vwCl [(aX, .inr (5, [.ref aM, .ref aY, .int xn, .ref aV])), (aM, .inl (cM, 1024, .inr (.inr (.inr (.inr xm))))), (aT, .inr (2, [.ref aK, .ref aG, .ref aE, .ref aW, .int tn, .int ts])), (aK, .inl (cK, 1024, .inl tk))] H → va_D A [(aX, .inr (5, [.ref aM, .ref aY, .int xn, .ref aV])), (aM, .inl (cM, 1024, .inr (.inr (.inr (.inr xm))))), (aT, .inr (2, [.ref aK, .ref aG, .ref aE, .ref aW, .int tn, .int ts])), (aK, .inl (cK, 1024, .inl tk))] → va_S A s.heap H locs → lv_has ls 3 [(0, .ref aX), (1, .ref aT), (2, .int x2)] → W p l e (headSpec (w_X_areNamesKnown) ({ frames := 2, cells := 0, slots := 0, locals := 42 })).room s m [.ref aX, .ref aT].toArray below meth c H locs 0 0 (MQ below (va_Qi (fun (r : Int32) (_ : Unit) => r = o ∧ narrow .boolean (.int r) = .int r) (fun _ t => va_P (dC, dI) vwCl [(aX, .inr (5, [.ref aM, .ref aY, .int xn, .ref aV])), (aM, .inl (cM, 1024, .inr (.inr (.inr (.inr xm))))), (aT, .inr (2, [.ref aK, .ref aG, .ref aE, .ref aW, .int tn, .int ts])), (aK, .inl (cK, 1024, .inl tk))] t.heap ∧ va_K (dC, dI) vwCl [(cM, (.object "ExpressionReader$Name")), (cK, .byte)] t ∧ va_D A [(aX, .inr (5, [.ref aM, .ref aY, .int xn, .ref aV])), (aM, .inl (cM, 1024, .inr (.inr (.inr (.inr xm))))), (aT, .inr (2, [.ref aK, .ref aG, .ref aE, .ref aW, .int tn, .int ts])), (aK, .inl (cK, 1024, .inl tk))]) A) [.ref aX, .ref aT].toArray s 0 0 A) (F0 m 2 ls []) := by
    intro n
    induction n with
    | zero => intro xm tn tk x2 H locs ls hf; exact absurd hf (by simp [f_X_areNamesKnown_l2])
    | succ n ih =>
      intro xm tn tk x2 H locs ls hf hP hD hS hl
      rw [f_X_areNamesKnown_l2] at hf
      refine lv_iload_n hx hb d_X_areNamesKnown_2 rfl (lv_at hl 2 rfl) ?_
      refine lv_aload_n hx hb d_X_areNamesKnown_3 rfl (lv_at hl 1 rfl) ?_
      obtain ⟨o_1, hM_1, hf⟩ := bd_some hf
      refine cr_i (va_runV (As := []) (rest := [.int x2]) ⟨hx, hb, hml, hown, hts⟩ (c_T_size l dC dI aT aK aG aE aW  H.size tn ts  o_1 hM_1) (cwV 0 hts (gwV wb_149 wb_151 wb_152 wb_32 wb_150) rfl rfl rfl (by decide +kernel) ⟨Nat.le_of_ble_eq_true rfl, Nat.le_of_ble_eq_true rfl⟩) (pr_V (hP.sub [2] rfl) (hD.sub [2] (by decide) rfl) hK hN [] rfl (ci := 2) rfl rfl rfl) rfl rfl hl.1 rfl (lv_room (Nat.le_of_ble_eq_true rfl)) d_X_areNamesKnown_4 ⟨Nat.zero_le _, Nat.zero_le _⟩) hP hD hS hA (in_of [2] rfl) (fun r_1 H locs hw hP hS => ?_)
      subst r_1
      refine lv_icmp_ge (tgt := 35) hx hb d_X_areNamesKnown_7 (by decide) (fun c_2 => ?_) (fun c_2 => ?_)
      · rw [if_pos c_2] at hf
        refine lv_iconst (v := (1 : Int32)) hx hb d_X_areNamesKnown_35 (by decide) ?_
        have ho := Option.some.inj hf
        subst o
        have hP9 := hP.sub (ws' := [(aX, .inr (5, [.ref aM, .ref aY, .int xn, .ref aV])), (aM, .inl (cM, 1024, .inr (.inr (.inr (.inr xm))))), (aT, .inr (2, [.ref aK, .ref aG, .ref aE, .ref aW, .int tn, .int ts])), (aK, .inl (cK, 1024, .inl tk))]) [0, 1, 2, 3] rfl
        have hD9 := hD.sub (ws' := [(aX, .inr (5, [.ref aM, .ref aY, .int xn, .ref aV])), (aM, .inl (cM, 1024, .inr (.inr (.inr (.inr xm))))), (aT, .inr (2, [.ref aK, .ref aG, .ref aE, .ref aW, .int tn, .int ts])), (aK, .inl (cK, 1024, .inl tk))]) [0, 1, 2, 3] (by decide) rfl
        exact W.zret (v := (1 : Int32)) (ty := .boolean) hx hb hr rfl (fun t ht hW => ⟨⟨(1 : Int32), (), rfl, ⟨rfl, rfl⟩, by rw [ht]; exact hP9, va_K.moved hW.alike hK, hD9⟩, hS.F ht⟩) hS.2.2 d_X_areNamesKnown_36
      · rw [if_neg c_2] at hf
        refine lv_aload_n hx hb d_X_areNamesKnown_10 rfl (lv_at hl 1 rfl) ?_
        refine lv_iload_n hx hb d_X_areNamesKnown_11 rfl (lv_at hl 2 rfl) ?_
        obtain ⟨o_3, hM_3, hf⟩ := bd_some hf
        refine cr_i (va_runV (As := [.int x2]) (rest := []) ⟨hx, hb, hml, hown, hts⟩ (c_T_kindOf l dC dI aT aK aG aE aW cK H.size tn ts tk x2 o_3 hM_3) (cwV 1 hts (gwV wb_153 wb_40 wb_41 wb_32 wb_39) rfl rfl rfl (by decide +kernel) ⟨Nat.le_of_ble_eq_true rfl, Nat.le_of_ble_eq_true rfl⟩) (pr_V (hP.sub [2, 3] rfl) (hD.sub [2, 3] (by decide) rfl) hK hN [1] rfl (ci := 2) rfl rfl rfl) rfl rfl hl.1 rfl (lv_room (Nat.le_of_ble_eq_true rfl)) d_X_areNamesKnown_12 ⟨Nat.zero_le _, Nat.zero_le _⟩) hP hD hS hA (in_of [2, 3] rfl) (fun r_3 H locs hw hP hS => ?_)
        subst r_3
        refine lv_iconst (v := (1 : Int32)) hx hb d_X_areNamesKnown_15 (by decide) ?_
        refine lv_icmp_ne (tgt := 29) hx hb d_X_areNamesKnown_16 (by decide) (fun c_4 => ?_) (fun c_4 => ?_)
        · rw [if_neg c_4] at hf
          refine lv_iinc (v := x2 + (1 : Int32)) (lv' := [(2, .int (x2 + (1 : Int32))), (0, .ref aX), (1, .ref aT)]) hx hb d_X_areNamesKnown_29 hl (k := 2) rfl rfl (by decide) rfl (fun ls hl => ?_)
          refine lv_goto (tgt := 2) hx hb d_X_areNamesKnown_32 (by decide) ?_
          exact ih xm tn tk (x2 + (1 : Int32)) H locs ls hf (hP.sub (ws' := [(aX, .inr (5, [.ref aM, .ref aY, .int xn, .ref aV])), (aM, .inl (cM, 1024, .inr (.inr (.inr (.inr xm))))), (aT, .inr (2, [.ref aK, .ref aG, .ref aE, .ref aW, .int tn, .int ts])), (aK, .inl (cK, 1024, .inl tk))]) [0, 1, 2, 3] rfl) (hD.sub (ws' := [(aX, .inr (5, [.ref aM, .ref aY, .int xn, .ref aV])), (aM, .inl (cM, 1024, .inr (.inr (.inr (.inr xm))))), (aT, .inr (2, [.ref aK, .ref aG, .ref aE, .ref aW, .int tn, .int ts])), (aK, .inl (cK, 1024, .inl tk))]) [0, 1, 2, 3] (by decide) rfl) hS (lv_sub hl [1, 2, 0] rfl)
        · rw [if_pos c_4] at hf
          refine lv_aload_n hx hb d_X_areNamesKnown_19 rfl (lv_at hl 0 rfl) ?_
          refine lv_iload_n hx hb d_X_areNamesKnown_20 rfl (lv_at hl 2 rfl) ?_
          obtain ⟨o_5, hM_5, hf⟩ := bd_some hf
          refine cr_q (va_runV (As := [.int x2]) (rest := []) ⟨hx, hb, hml, hown, hts⟩ (c_X_meaningOf l dC dI aX aM aY aV aC aP aO cM H.size xn xm x2 o_5 hM_5) (cwV 1 hts (gwV wb_154 wb_156 wb_157 wb_158 wb_155) rfl rfl rfl (by decide +kernel) ⟨Nat.le_of_ble_eq_true rfl, Nat.le_of_ble_eq_true rfl⟩) (pr_V (hP.sub [0, 1] rfl) (hD.sub [0, 1] (by decide) rfl) hK hN [0] rfl (ci := 5) rfl rfl rfl) rfl rfl hl.1 rfl (lv_room (Nat.le_of_ble_eq_true rfl)) d_X_areNamesKnown_21 ⟨Nat.zero_le _, Nat.zero_le _⟩) hP hD hS hA (in_of [0, 1] rfl) (fun r_5 H locs hw hP hS => ?_)
          subst r_5
          cases e_6 : o_5 with
          | none =>
            rw [e_6, oc_none] at hf
            refine W.eq (g2 := F0 m 24 ls [.null]) rfl ?_
            refine lv_ifnonnullN hx hb d_X_areNamesKnown_24 ?_
            refine lv_iconst (v := (0 : Int32)) hx hb d_X_areNamesKnown_27 (by decide) ?_
            have ho := Option.some.inj hf
            subst o
            have hP9 := hP.sub (ws' := [(aX, .inr (5, [.ref aM, .ref aY, .int xn, .ref aV])), (aM, .inl (cM, 1024, .inr (.inr (.inr (.inr xm))))), (aT, .inr (2, [.ref aK, .ref aG, .ref aE, .ref aW, .int tn, .int ts])), (aK, .inl (cK, 1024, .inl tk))]) [0, 1, 2, 3] rfl
            have hD9 := hD.sub (ws' := [(aX, .inr (5, [.ref aM, .ref aY, .int xn, .ref aV])), (aM, .inl (cM, 1024, .inr (.inr (.inr (.inr xm))))), (aT, .inr (2, [.ref aK, .ref aG, .ref aE, .ref aW, .int tn, .int ts])), (aK, .inl (cK, 1024, .inl tk))]) [0, 1, 2, 3] (by decide) rfl
            exact W.zret (v := (0 : Int32)) (ty := .boolean) hx hb hr rfl (fun t ht hW => ⟨⟨(0 : Int32), (), rfl, ⟨rfl, rfl⟩, by rw [ht]; exact hP9, va_K.moved hW.alike hK, hD9⟩, hS.F ht⟩) hS.2.2 d_X_areNamesKnown_28
          | some z_6 =>
            rw [e_6, oc_some] at hf
            refine W.eq (g2 := F0 m 24 ls [.ref z_6]) rfl ?_
            refine lv_ifnonnull (tgt := 29) hx hb d_X_areNamesKnown_24 (by decide) ?_
            refine lv_iinc (v := x2 + (1 : Int32)) (lv' := [(2, .int (x2 + (1 : Int32))), (0, .ref aX), (1, .ref aT)]) hx hb d_X_areNamesKnown_29 hl (k := 2) rfl rfl (by decide) rfl (fun ls hl => ?_)
            refine lv_goto (tgt := 2) hx hb d_X_areNamesKnown_32 (by decide) ?_
            exact ih xm tn tk (x2 + (1 : Int32)) H locs ls hf (hP.sub (ws' := [(aX, .inr (5, [.ref aM, .ref aY, .int xn, .ref aV])), (aM, .inl (cM, 1024, .inr (.inr (.inr (.inr xm))))), (aT, .inr (2, [.ref aK, .ref aG, .ref aE, .ref aW, .int tn, .int ts])), (aK, .inl (cK, 1024, .inl tk))]) [0, 1, 2, 3] rfl) (hD.sub (ws' := [(aX, .inr (5, [.ref aM, .ref aY, .int xn, .ref aV])), (aM, .inl (cM, 1024, .inr (.inr (.inr (.inr xm))))), (aT, .inr (2, [.ref aK, .ref aG, .ref aE, .ref aW, .int tn, .int ts])), (aK, .inl (cK, 1024, .inl tk))]) [0, 1, 2, 3] (by decide) rfl) hS (lv_sub hl [1, 2, 0] rfl)
  rw [f_X_areNamesKnown] at hf
  refine lv_iconst (v := (0 : Int32)) hx hb d_X_areNamesKnown_0 (by decide) ?_
  refine lv_istore_n (lv' := [(2, .int (0 : Int32)), (0, .ref aX), (1, .ref aT)]) hx hb d_X_areNamesKnown_1 rfl hl (by decide) rfl (fun ls hl => ?_)
  exact loop_2 FU xm tn tk (0 : Int32) s.heap [] ls hf (hP.sub (ws' := [(aX, .inr (5, [.ref aM, .ref aY, .int xn, .ref aV])), (aM, .inl (cM, 1024, .inr (.inr (.inr (.inr xm))))), (aT, .inr (2, [.ref aK, .ref aG, .ref aE, .ref aW, .int tn, .int ts])), (aK, .inl (cK, 1024, .inl tk))]) [0, 1, 2, 3] rfl) (hD.sub (ws' := [(aX, .inr (5, [.ref aM, .ref aY, .int xn, .ref aV])), (aM, .inl (cM, 1024, .inr (.inr (.inr (.inr xm))))), (aT, .inr (2, [.ref aK, .ref aG, .ref aE, .ref aW, .int tn, .int ts])), (aK, .inl (cK, 1024, .inl tk))]) [0, 1, 2, 3] (by decide) rfl) hS (lv_sub hl [1, 2, 0] rfl)

def f_X_rankOf (p0 : Int32) : Option (Int32) := if p0 = (37 : Int32) then some ((6 : Int32)) else (if p0 = (38 : Int32) then some ((3 : Int32)) else (if p0 = (42 : Int32) then some ((6 : Int32)) else (if p0 = (43 : Int32) then some ((5 : Int32)) else (if p0 = (45 : Int32) then some ((5 : Int32)) else (if p0 = (47 : Int32) then some ((6 : Int32)) else (if p0 = (60 : Int32) then some ((4 : Int32)) else (if p0 = (62 : Int32) then some ((4 : Int32)) else (if p0 = (94 : Int32) then some ((2 : Int32)) else (if p0 = (124 : Int32) then some ((1 : Int32)) else (if (0 : Int32) ≤ p0 then some ((0 : Int32)) else some ((7 : Int32))))))))))))
set_option maxHeartbeats 4000000 in
set_option maxRecDepth 100000 in
theorem c_X_rankOf (l : Launch) (dC : Nat → ClassId) (dI : Nat → Nat → Nat) (sz : Nat) (p0 : Int32) (o : Int32) (hf : f_X_rankOf p0 = some o) : Met l y_X_rankOf (w_X_rankOf) ({ frames := 0, cells := 0, slots := 0, locals := 0 }) (va_Pc [.int p0] (fun U => U.heap.size = sz ∧ va_P (dC, dI) vwCl [] U.heap ∧ va_K (dC, dI) vwCl [] U ∧ va_D (fun _ => True) [] ∧ NW U)) (va_Qi (fun (r : Int32) (_ : Unit) => r = o) (fun _ t => va_P (dC, dI) vwCl [] t.heap ∧ va_K (dC, dI) vwCl [] t ∧ va_D (va_A [] sz) []) (va_A [] sz)) 0 0 (va_A [] sz) := by
  refine Met.ofW (cc := b_X_rankOf) (maxL := 1) (ret := (some .int)) (by decide) rfl ?_
  intro p e s m args below meth c s₁ B hml hv
  obtain ⟨rfl, hsz, hP, hK, hD0, hN⟩ := hv
  have hx := B.exec
  have hb := B.bytes
  have hr := B.returns
  have hts : ∀ w ∈ WB, w.before _ s = true := fun w h => atoms_spec (ws := w_X_rankOf) B.pre w (List.mem_cons_of_mem _ h)
  have hown : s.vm.findClass R_X = some m.cls := findClass_of_methodNamed B.named
  have hlocks := B.notSynchronized
  subst hsz
  have hD := hD0.self (sz := s.heap.size)
  generalize hAe : va_A [] s.heap.size = A at hD ⊢
  have hA : ∀ q : Nat, s.heap.size ≤ q → A q := fun q h => by rw [← hAe]; exact Or.inr h
  have hS : va_S A s.heap s.heap [] := va_S.rf
  have hP : va_P (dC, dI) vwCl [] s.heap := hP
  have hl := lv_entry [.int p0] (n := 1) (Nat.le_of_ble_eq_true rfl)
  rw [lg_entry_eq]
  generalize (lg_sl [.int p0] ++ List.replicate (1 - (lg_sl [.int p0]).length) Slot.unset).toArray = ls at hl ⊢
  have hl : lv_has ls 1 [(0, .int p0)] := hl
  rw [f_X_rankOf] at hf
  refine lv_iload_n hx hb d_X_rankOf_0 rfl (lv_at hl 0 rfl) ?_
  by_cases c_1 : p0 = (37 : Int32)
  · rw [if_pos c_1] at hf
    refine lv_lookup (off := 101) (tgt := 102) hx hb d_X_rankOf_1 (by decide) (by rw [c_1]; first | done | rfl | decide) (by decide) ?_
    refine lv_bipush (v := (6 : Int32)) hx hb d_X_rankOf_102 (by decide) ?_
    have ho := Option.some.inj hf
    subst o
    have hP9 := hP.sub (ws' := []) [] rfl
    have hD9 := hD.sub (ws' := []) [] (by decide) rfl
    exact W.iret (v := (6 : Int32)) hx hb hr (fun t ht hW => ⟨⟨(6 : Int32), (), rfl, rfl, by rw [ht]; exact hP9, va_K.moved hW.alike hK, hD9⟩, hS.F ht⟩) hS.2.2 d_X_rankOf_104
  rw [if_neg c_1] at hf
  by_cases c_2 : p0 = (38 : Int32)
  · rw [if_pos c_2] at hf
    refine lv_lookup (off := 95) (tgt := 96) hx hb d_X_rankOf_1 (by decide) (by rw [c_2]; first | done | rfl | decide) (by decide) ?_
    refine lv_iconst (v := (3 : Int32)) hx hb d_X_rankOf_96 (by decide) ?_
    have ho := Option.some.inj hf
    subst o
    have hP9 := hP.sub (ws' := []) [] rfl
    have hD9 := hD.sub (ws' := []) [] (by decide) rfl
    exact W.iret (v := (3 : Int32)) hx hb hr (fun t ht hW => ⟨⟨(3 : Int32), (), rfl, rfl, by rw [ht]; exact hP9, va_K.moved hW.alike hK, hD9⟩, hS.F ht⟩) hS.2.2 d_X_rankOf_97
  rw [if_neg c_2] at hf
  by_cases c_3 : p0 = (42 : Int32)
  · rw [if_pos c_3] at hf
    refine lv_lookup (off := 101) (tgt := 102) hx hb d_X_rankOf_1 (by decide) (by rw [c_3]; first | done | rfl | decide) (by decide) ?_
    refine lv_bipush (v := (6 : Int32)) hx hb d_X_rankOf_102 (by decide) ?_
    have ho := Option.some.inj hf
    subst o
    have hP9 := hP.sub (ws' := []) [] rfl
    have hD9 := hD.sub (ws' := []) [] (by decide) rfl
    exact W.iret (v := (6 : Int32)) hx hb hr (fun t ht hW => ⟨⟨(6 : Int32), (), rfl, rfl, by rw [ht]; exact hP9, va_K.moved hW.alike hK, hD9⟩, hS.F ht⟩) hS.2.2 d_X_rankOf_104
  rw [if_neg c_3] at hf
  by_cases c_4 : p0 = (43 : Int32)
  · rw [if_pos c_4] at hf
    refine lv_lookup (off := 99) (tgt := 100) hx hb d_X_rankOf_1 (by decide) (by rw [c_4]; first | done | rfl | decide) (by decide) ?_
    refine lv_iconst (v := (5 : Int32)) hx hb d_X_rankOf_100 (by decide) ?_
    have ho := Option.some.inj hf
    subst o
    have hP9 := hP.sub (ws' := []) [] rfl
    have hD9 := hD.sub (ws' := []) [] (by decide) rfl
    exact W.iret (v := (5 : Int32)) hx hb hr (fun t ht hW => ⟨⟨(5 : Int32), (), rfl, rfl, by rw [ht]; exact hP9, va_K.moved hW.alike hK, hD9⟩, hS.F ht⟩) hS.2.2 d_X_rankOf_101
  rw [if_neg c_4] at hf
  by_cases c_5 : p0 = (45 : Int32)
  · rw [if_pos c_5] at hf
    refine lv_lookup (off := 99) (tgt := 100) hx hb d_X_rankOf_1 (by decide) (by rw [c_5]; first | done | rfl | decide) (by decide) ?_
    refine lv_iconst (v := (5 : Int32)) hx hb d_X_rankOf_100 (by decide) ?_
    have ho := Option.some.inj hf
    subst o
    have hP9 := hP.sub (ws' := []) [] rfl
    have hD9 := hD.sub (ws' := []) [] (by decide) rfl
    exact W.iret (v := (5 : Int32)) hx hb hr (fun t ht hW => ⟨⟨(5 : Int32), (), rfl, rfl, by rw [ht]; exact hP9, va_K.moved hW.alike hK, hD9⟩, hS.F ht⟩) hS.2.2 d_X_rankOf_101
  rw [if_neg c_5] at hf
  by_cases c_6 : p0 = (47 : Int32)
  · rw [if_pos c_6] at hf
    refine lv_lookup (off := 101) (tgt := 102) hx hb d_X_rankOf_1 (by decide) (by rw [c_6]; first | done | rfl | decide) (by decide) ?_
    refine lv_bipush (v := (6 : Int32)) hx hb d_X_rankOf_102 (by decide) ?_
    have ho := Option.some.inj hf
    subst o
    have hP9 := hP.sub (ws' := []) [] rfl
    have hD9 := hD.sub (ws' := []) [] (by decide) rfl
    exact W.iret (v := (6 : Int32)) hx hb hr (fun t ht hW => ⟨⟨(6 : Int32), (), rfl, rfl, by rw [ht]; exact hP9, va_K.moved hW.alike hK, hD9⟩, hS.F ht⟩) hS.2.2 d_X_rankOf_104
  rw [if_neg c_6] at hf
  by_cases c_7 : p0 = (60 : Int32)
  · rw [if_pos c_7] at hf
    refine lv_lookup (off := 97) (tgt := 98) hx hb d_X_rankOf_1 (by decide) (by rw [c_7]; first | done | rfl | decide) (by decide) ?_
    refine lv_iconst (v := (4 : Int32)) hx hb d_X_rankOf_98 (by decide) ?_
    have ho := Option.some.inj hf
    subst o
    have hP9 := hP.sub (ws' := []) [] rfl
    have hD9 := hD.sub (ws' := []) [] (by decide) rfl
    exact W.iret (v := (4 : Int32)) hx hb hr (fun t ht hW => ⟨⟨(4 : Int32), (), rfl, rfl, by rw [ht]; exact hP9, va_K.moved hW.alike hK, hD9⟩, hS.F ht⟩) hS.2.2 d_X_rankOf_99
  rw [if_neg c_7] at hf
  by_cases c_8 : p0 = (62 : Int32)
  · rw [if_pos c_8] at hf
    refine lv_lookup (off := 97) (tgt := 98) hx hb d_X_rankOf_1 (by decide) (by rw [c_8]; first | done | rfl | decide) (by decide) ?_
    refine lv_iconst (v := (4 : Int32)) hx hb d_X_rankOf_98 (by decide) ?_
    have ho := Option.some.inj hf
    subst o
    have hP9 := hP.sub (ws' := []) [] rfl
    have hD9 := hD.sub (ws' := []) [] (by decide) rfl
    exact W.iret (v := (4 : Int32)) hx hb hr (fun t ht hW => ⟨⟨(4 : Int32), (), rfl, rfl, by rw [ht]; exact hP9, va_K.moved hW.alike hK, hD9⟩, hS.F ht⟩) hS.2.2 d_X_rankOf_99
  rw [if_neg c_8] at hf
  by_cases c_9 : p0 = (94 : Int32)
  · rw [if_pos c_9] at hf
    refine lv_lookup (off := 93) (tgt := 94) hx hb d_X_rankOf_1 (by decide) (by rw [c_9]; first | done | rfl | decide) (by decide) ?_
    refine lv_iconst (v := (2 : Int32)) hx hb d_X_rankOf_94 (by decide) ?_
    have ho := Option.some.inj hf
    subst o
    have hP9 := hP.sub (ws' := []) [] rfl
    have hD9 := hD.sub (ws' := []) [] (by decide) rfl
    exact W.iret (v := (2 : Int32)) hx hb hr (fun t ht hW => ⟨⟨(2 : Int32), (), rfl, rfl, by rw [ht]; exact hP9, va_K.moved hW.alike hK, hD9⟩, hS.F ht⟩) hS.2.2 d_X_rankOf_95
  rw [if_neg c_9] at hf
  by_cases c_10 : p0 = (124 : Int32)
  · rw [if_pos c_10] at hf
    refine lv_lookup (off := 91) (tgt := 92) hx hb d_X_rankOf_1 (by decide) (by rw [c_10]; first | done | rfl | decide) (by decide) ?_
    refine lv_iconst (v := (1 : Int32)) hx hb d_X_rankOf_92 (by decide) ?_
    have ho := Option.some.inj hf
    subst o
    have hP9 := hP.sub (ws' := []) [] rfl
    have hD9 := hD.sub (ws' := []) [] (by decide) rfl
    exact W.iret (v := (1 : Int32)) hx hb hr (fun t ht hW => ⟨⟨(1 : Int32), (), rfl, rfl, by rw [ht]; exact hP9, va_K.moved hW.alike hK, hD9⟩, hS.F ht⟩) hS.2.2 d_X_rankOf_93
  rw [if_neg c_10] at hf
  refine lv_lookup (off := 104) (tgt := 105) hx hb d_X_rankOf_1 (by decide) (by rw [lv_osw c_1 (by decide), lv_osw c_2 (by decide), lv_osw c_3 (by decide), lv_osw c_4 (by decide), lv_osw c_5 (by decide), lv_osw c_6 (by decide), lv_osw c_7 (by decide), lv_osw c_8 (by decide), lv_osw c_9 (by decide), lv_osw c_10 (by decide)]; first | done | rfl) (by decide) ?_
  refine lv_iload_n hx hb d_X_rankOf_105 rfl (lv_at hl 0 rfl) ?_
  refine lv_if_ge (tgt := 114) hx hb d_X_rankOf_106 (by decide) (fun c_11 => ?_) (fun c_11 => ?_)
  · rw [if_pos c_11] at hf
    refine lv_iconst (v := (0 : Int32)) hx hb d_X_rankOf_114 (by decide) ?_
    have ho := Option.some.inj hf
    subst o
    have hP9 := hP.sub (ws' := []) [] rfl
    have hD9 := hD.sub (ws' := []) [] (by decide) rfl
    exact W.iret (v := (0 : Int32)) hx hb hr (fun t ht hW => ⟨⟨(0 : Int32), (), rfl, rfl, by rw [ht]; exact hP9, va_K.moved hW.alike hK, hD9⟩, hS.F ht⟩) hS.2.2 d_X_rankOf_115
  · rw [if_neg c_11] at hf
    refine lv_bipush (v := (7 : Int32)) hx hb d_X_rankOf_109 (by decide) ?_
    refine lv_goto (tgt := 115) hx hb d_X_rankOf_111 (by decide) ?_
    have ho := Option.some.inj hf
    subst o
    have hP9 := hP.sub (ws' := []) [] rfl
    have hD9 := hD.sub (ws' := []) [] (by decide) rfl
    exact W.iret (v := (7 : Int32)) hx hb hr (fun t ht hW => ⟨⟨(7 : Int32), (), rfl, rfl, by rw [ht]; exact hP9, va_K.moved hW.alike hK, hD9⟩, hS.F ht⟩) hS.2.2 d_X_rankOf_115

def f_X_letWait (xn : Int32) (xw : Nat → Int32) (p0 : Int32) : Option (Int32 × (Nat → Int32)) := if (1024 : Int32) ≤ xn then some (xn, xw) else gi xn 1024 (some (xn + (1 : Int32), upd xw xn.toNatClampNeg (vp_nar .byte p0.toInt8.toInt32)))
set_option maxHeartbeats 4000000 in
set_option maxRecDepth 100000 in
theorem c_X_letWait (l : Launch) (dC : Nat → ClassId) (dI : Nat → Nat → Nat) (aX aM aY aV aC aP aO : Nat) (cY : ClassId) (sz : Nat) (xn : Int32) (xw : Nat → Int32) (p0 : Int32) (o : Int32 × (Nat → Int32)) (hf : f_X_letWait xn xw p0 = some o) : Met l y_X_letWait (w_X_letWait) ({ frames := 0, cells := 0, slots := 0, locals := 0 }) (va_Pc [.ref aX, .int p0] (fun U => U.heap.size = sz ∧ va_P (dC, dI) vwCl [(aX, .inr (5, [.ref aM, .ref aY, .int xn, .ref aV])), (aY, .inl (cY, 1024, .inl xw))] U.heap ∧ va_K (dC, dI) vwCl [(cY, .byte)] U ∧ va_D (fun _ => True) [(aX, .inr (5, [.ref aM, .ref aY, .int xn, .ref aV])), (aY, .inl (cY, 1024, .inl xw))] ∧ NW U)) (va_Qv (fun (_ : Unit) => True) (fun _ t => va_P (dC, dI) vwCl [(aX, .inr (5, [.ref aM, .ref aY, .int o.1, .ref aV])), (aY, .inl (cY, 1024, .inl o.2))] t.heap ∧ va_K (dC, dI) vwCl [(cY, .byte)] t ∧ va_D (va_A [(aX, .inr (5, [.ref aM, .ref aY, .int xn, .ref aV])), (aY, .inl (cY, 1024, .inl xw))] sz) [(aX, .inr (5, [.ref aM, .ref aY, .int o.1, .ref aV])), (aY, .inl (cY, 1024, .inl o.2))]) (va_A [(aX, .inr (5, [.ref aM, .ref aY, .int xn, .ref aV])), (aY, .inl (cY, 1024, .inl xw))] sz)) 0 0 (va_A [(aX, .inr (5, [.ref aM, .ref aY, .int xn, .ref aV])), (aY, .inl (cY, 1024, .inl xw))] sz) := by
  refine Met.ofW (cc := b_X_letWait) (maxL := 2) (ret := none) (by decide) rfl ?_
  intro p e s m args below meth c s₁ B hml hv
  obtain ⟨rfl, hsz, hP, hK, hD0, hN⟩ := hv
  have hx := B.exec
  have hb := B.bytes
  have hr := B.returns
  have hts : ∀ w ∈ WB, w.before _ s = true := fun w h => atoms_spec (ws := w_X_letWait) B.pre w (List.mem_cons_of_mem _ h)
  have hown : s.vm.findClass R_X = some m.cls := findClass_of_methodNamed B.named
  have hlocks := B.notSynchronized
  subst hsz
  have hD := hD0.self (sz := s.heap.size)
  generalize hAe : va_A [(aX, .inr (5, [.ref aM, .ref aY, .int xn, .ref aV])), (aY, .inl (cY, 1024, .inl xw))] s.heap.size = A at hD ⊢
  have hA : ∀ q : Nat, s.heap.size ≤ q → A q := fun q h => by rw [← hAe]; exact Or.inr h
  have hS : va_S A s.heap s.heap [] := va_S.rf
  have hP : va_P (dC, dI) vwCl [(aX, .inr (5, [.ref aM, .ref aY, .int xn, .ref aV])), (aY, .inl (cY, 1024, .inl xw))] s.heap := hP
  have hl := lv_entry [.ref aX, .int p0] (n := 2) (Nat.le_of_ble_eq_true rfl)
  rw [lg_entry_eq]
  generalize (lg_sl [.ref aX, .int p0] ++ List.replicate (2 - (lg_sl [.ref aX, .int p0]).length) Slot.unset).toArray = ls at hl ⊢
  have hl : lv_has ls 2 [(0, .ref aX), (1, .int p0)] := hl
  rw [f_X_letWait] at hf
  refine lv_aload_n hx hb d_X_letWait_0 rfl (lv_at hl 0 rfl) ?_
  refine va_get (D := (dC, dI)) (ci := 5) (v := .int xn) (C := R_X) (T := F_X) (N := 4) hx hb hts i_X hown hK hP 0 rfl rfl 2 (by decide) (hts _ wb_159) (fun _ h9 => h9) rfl d_X_letWait_1 ?_
  refine lv_aload_n hx hb d_X_letWait_4 rfl (lv_at hl 0 rfl) ?_
  refine va_get (D := (dC, dI)) (ci := 5) (v := .ref aY) (C := R_X) (T := F_X) (N := 4) hx hb hts i_X hown hK hP 0 rfl rfl 1 (by decide) (hts _ wb_160) (fun _ h9 => h9) rfl d_X_letWait_5 ?_
  refine va_alen (v := (1024 : Int32)) hx hb hK hP 1 0 rfl rfl rfl d_X_letWait_8 ?_
  refine lv_icmp_ge (tgt := 33) hx hb d_X_letWait_9 (by decide) (fun c_1 => ?_) (fun c_1 => ?_)
  · rw [if_pos c_1] at hf
    have ho := Option.some.inj hf
    subst o
    have hP9 := hP.sub (ws' := [(aX, .inr (5, [.ref aM, .ref aY, .int xn, .ref aV])), (aY, .inl (cY, 1024, .inl xw))]) [0, 1] rfl
    have hD9 := hD.sub (ws' := [(aX, .inr (5, [.ref aM, .ref aY, .int xn, .ref aV])), (aY, .inl (cY, 1024, .inl xw))]) [0, 1] (by decide) rfl
    exact W.vret hx hb hr (fun t ht hW => ⟨⟨(), rfl, trivial, by rw [ht]; exact hP9, va_K.moved hW.alike hK, hD9⟩, hS.F ht⟩) hS.2.2 d_X_letWait_33
  · rw [if_neg c_1] at hf
    refine lv_aload_n hx hb d_X_letWait_12 rfl (lv_at hl 0 rfl) ?_
    refine va_get (D := (dC, dI)) (ci := 5) (v := .ref aY) (C := R_X) (T := F_X) (N := 4) hx hb hts i_X hown hK hP 0 rfl rfl 1 (by decide) (hts _ wb_160) (fun _ h9 => h9) rfl d_X_letWait_13 ?_
    refine lv_aload_n hx hb d_X_letWait_16 rfl (lv_at hl 0 rfl) ?_
    refine va_get (D := (dC, dI)) (ci := 5) (v := .int xn) (C := R_X) (T := F_X) (N := 4) hx hb hts i_X hown hK hP 0 rfl rfl 2 (by decide) (hts _ wb_159) (fun _ h9 => h9) rfl d_X_letWait_17 ?_
    refine lv_iload_n hx hb d_X_letWait_20 rfl (lv_at hl 1 rfl) ?_
    refine lv_i2b (v := p0.toInt8.toInt32) hx hb d_X_letWait_21 rfl ?_
    obtain ⟨hin, hf⟩ := gi_some hf
    refine va_bast hx hb hK hP hD hS 1 0 rfl rfl hin d_X_letWait_22 (fun H locs hP hD hS => ?_)
    have hP : va_P (dC, dI) vwCl [(aX, .inr (5, [.ref aM, .ref aY, .int xn, .ref aV])), (aY, .inl (cY, 1024, .inl (upd xw xn.toNatClampNeg (vp_nar .byte p0.toInt8.toInt32))))] H := hP
    have hD : va_D A [(aX, .inr (5, [.ref aM, .ref aY, .int xn, .ref aV])), (aY, .inl (cY, 1024, .inl (upd xw xn.toNatClampNeg (vp_nar .byte p0.toInt8.toInt32))))] := hD
    refine lv_aload_n hx hb d_X_letWait_23 rfl (lv_at hl 0 rfl) ?_
    refine lv_dup hx hb d_X_letWait_24 rfl ?_
    refine va_get (D := (dC, dI)) (ci := 5) (v := .int xn) (C := R_X) (T := F_X) (N := 4) hx hb hts i_X hown hK hP 0 rfl rfl 2 (by decide) (hts _ wb_159) (fun _ h9 => h9) rfl d_X_letWait_25 ?_
    refine lv_iconst (v := (1 : Int32)) hx hb d_X_letWait_28 (by decide) ?_
    refine lv_iadd hx hb d_X_letWait_29 ?_
    refine va_put (D := (dC, dI)) (ci := 5) (v := .int (xn + (1 : Int32))) (ty := .int) (C := R_X) (T := F_X) (N := 4) hx hb hts i_X ft_X tk_X n_X hown hK hP hD hS 0 rfl rfl 2 (by decide) (hts _ wb_159) (fun _ h9 => h9) rfl (by decide +kernel) rfl rfl (Nat.le_of_ble_eq_true rfl) d_X_letWait_30 (fun H locs hP hD hS => ?_)
    have hP : va_P (dC, dI) vwCl [(aX, .inr (5, [.ref aM, .ref aY, .int (xn + (1 : Int32)), .ref aV])), (aY, .inl (cY, 1024, .inl (upd xw xn.toNatClampNeg (vp_nar .byte p0.toInt8.toInt32))))] H := hP
    have hD : va_D A [(aX, .inr (5, [.ref aM, .ref aY, .int (xn + (1 : Int32)), .ref aV])), (aY, .inl (cY, 1024, .inl (upd xw xn.toNatClampNeg (vp_nar .byte p0.toInt8.toInt32))))] := hD
    have ho := Option.some.inj hf
    subst o
    have hP9 := hP.sub (ws' := [(aX, .inr (5, [.ref aM, .ref aY, .int (xn + (1 : Int32)), .ref aV])), (aY, .inl (cY, 1024, .inl (upd xw xn.toNatClampNeg (vp_nar .byte p0.toInt8.toInt32))))]) [0, 1] rfl
    have hD9 := hD.sub (ws' := [(aX, .inr (5, [.ref aM, .ref aY, .int (xn + (1 : Int32)), .ref aV])), (aY, .inl (cY, 1024, .inl (upd xw xn.toNatClampNeg (vp_nar .byte p0.toInt8.toInt32))))]) [0, 1] (by decide) rfl
    exact W.vret hx hb hr (fun t ht hW => ⟨⟨(), rfl, trivial, by rw [ht]; exact hP9, va_K.moved hW.alike hK, hD9⟩, hS.F ht⟩) hS.2.2 d_X_letWait_33

def f_X_dropBracket (xn : Int32) : Option (Int32) := if xn ≤ (0 : Int32) then some (xn) else some (xn - (1 : Int32))
set_option maxHeartbeats 4000000 in
set_option maxRecDepth 100000 in
theorem c_X_dropBracket (l : Launch) (dC : Nat → ClassId) (dI : Nat → Nat → Nat) (aX aM aY aV aC aP aO : Nat) (sz : Nat) (xn : Int32) (o : Int32) (hf : f_X_dropBracket xn = some o) : Met l y_X_dropBracket (w_X_dropBracket) ({ frames := 0, cells := 0, slots := 0, locals := 0 }) (va_Pc [.ref aX] (fun U => U.heap.size = sz ∧ va_P (dC, dI) vwCl [(aX, .inr (5, [.ref aM, .ref aY, .int xn, .ref aV]))] U.heap ∧ va_K (dC, dI) vwCl [] U ∧ va_D (fun _ => True) [(aX, .inr (5, [.ref aM, .ref aY, .int xn, .ref aV]))] ∧ NW U)) (va_Qv (fun (_ : Unit) => True) (fun _ t => va_P (dC, dI) vwCl [(aX, .inr (5, [.ref aM, .ref aY, .int o, .ref aV]))] t.heap ∧ va_K (dC, dI) vwCl [] t ∧ va_D (va_A [(aX, .inr (5, [.ref aM, .ref aY, .int xn, .ref aV]))] sz) [(aX, .inr (5, [.ref aM, .ref aY, .int o, .ref aV]))]) (va_A [(aX, .inr (5, [.ref aM, .ref aY, .int xn, .ref aV]))] sz)) 0 0 (va_A [(aX, .inr (5, [.ref aM, .ref aY, .int xn, .ref aV]))] sz) := by
  refine Met.ofW (cc := b_X_dropBracket) (maxL := 1) (ret := none) (by decide) rfl ?_
  intro p e s m args below meth c s₁ B hml hv
  obtain ⟨rfl, hsz, hP, hK, hD0, hN⟩ := hv
  have hx := B.exec
  have hb := B.bytes
  have hr := B.returns
  have hts : ∀ w ∈ WB, w.before _ s = true := fun w h => atoms_spec (ws := w_X_dropBracket) B.pre w (List.mem_cons_of_mem _ h)
  have hown : s.vm.findClass R_X = some m.cls := findClass_of_methodNamed B.named
  have hlocks := B.notSynchronized
  subst hsz
  have hD := hD0.self (sz := s.heap.size)
  generalize hAe : va_A [(aX, .inr (5, [.ref aM, .ref aY, .int xn, .ref aV]))] s.heap.size = A at hD ⊢
  have hA : ∀ q : Nat, s.heap.size ≤ q → A q := fun q h => by rw [← hAe]; exact Or.inr h
  have hS : va_S A s.heap s.heap [] := va_S.rf
  have hP : va_P (dC, dI) vwCl [(aX, .inr (5, [.ref aM, .ref aY, .int xn, .ref aV]))] s.heap := hP
  have hl := lv_entry [.ref aX] (n := 1) (Nat.le_of_ble_eq_true rfl)
  rw [lg_entry_eq]
  generalize (lg_sl [.ref aX] ++ List.replicate (1 - (lg_sl [.ref aX]).length) Slot.unset).toArray = ls at hl ⊢
  have hl : lv_has ls 1 [(0, .ref aX)] := hl
  rw [f_X_dropBracket] at hf
  refine lv_aload_n hx hb d_X_dropBracket_0 rfl (lv_at hl 0 rfl) ?_
  refine va_get (D := (dC, dI)) (ci := 5) (v := .int xn) (C := R_X) (T := F_X) (N := 4) hx hb hts i_X hown hK hP 0 rfl rfl 2 (by decide) (hts _ wb_159) (fun _ h9 => h9) rfl d_X_dropBracket_1 ?_
  refine lv_if_le (tgt := 17) hx hb d_X_dropBracket_4 (by decide) (fun c_1 => ?_) (fun c_1 => ?_)
  · rw [if_pos c_1] at hf
    have ho := Option.some.inj hf
    subst o
    have hP9 := hP.sub (ws' := [(aX, .inr (5, [.ref aM, .ref aY, .int xn, .ref aV]))]) [0] rfl
    have hD9 := hD.sub (ws' := [(aX, .inr (5, [.ref aM, .ref aY, .int xn, .ref aV]))]) [0] (by decide) rfl
    exact W.vret hx hb hr (fun t ht hW => ⟨⟨(), rfl, trivial, by rw [ht]; exact hP9, va_K.moved hW.alike hK, hD9⟩, hS.F ht⟩) hS.2.2 d_X_dropBracket_17
  · rw [if_neg c_1] at hf
    refine lv_aload_n hx hb d_X_dropBracket_7 rfl (lv_at hl 0 rfl) ?_
    refine lv_dup hx hb d_X_dropBracket_8 rfl ?_
    refine va_get (D := (dC, dI)) (ci := 5) (v := .int xn) (C := R_X) (T := F_X) (N := 4) hx hb hts i_X hown hK hP 0 rfl rfl 2 (by decide) (hts _ wb_159) (fun _ h9 => h9) rfl d_X_dropBracket_9 ?_
    refine lv_iconst (v := (1 : Int32)) hx hb d_X_dropBracket_12 (by decide) ?_
    refine lv_isub hx hb d_X_dropBracket_13 ?_
    refine va_put (D := (dC, dI)) (ci := 5) (v := .int (xn - (1 : Int32))) (ty := .int) (C := R_X) (T := F_X) (N := 4) hx hb hts i_X ft_X tk_X n_X hown hK hP hD hS 0 rfl rfl 2 (by decide) (hts _ wb_159) (fun _ h9 => h9) rfl (by decide +kernel) rfl rfl (Nat.le_of_ble_eq_true rfl) d_X_dropBracket_14 (fun H locs hP hD hS => ?_)
    have hP : va_P (dC, dI) vwCl [(aX, .inr (5, [.ref aM, .ref aY, .int (xn - (1 : Int32)), .ref aV]))] H := hP
    have hD : va_D A [(aX, .inr (5, [.ref aM, .ref aY, .int (xn - (1 : Int32)), .ref aV]))] := hD
    have ho := Option.some.inj hf
    subst o
    have hP9 := hP.sub (ws' := [(aX, .inr (5, [.ref aM, .ref aY, .int (xn - (1 : Int32)), .ref aV]))]) [0] rfl
    have hD9 := hD.sub (ws' := [(aX, .inr (5, [.ref aM, .ref aY, .int (xn - (1 : Int32)), .ref aV]))]) [0] (by decide) rfl
    exact W.vret hx hb hr (fun t ht hW => ⟨⟨(), rfl, trivial, by rw [ht]; exact hP9, va_K.moved hW.alike hK, hD9⟩, hS.F ht⟩) hS.2.2 d_X_dropBracket_17

def f_X_applyWaiting_l7 : Nat → Int32 → (Nat → Int32) → Int32 → Int32 → (Nat → Int64) → (Nat → Int32) → (Nat → Int32) → Int32 → Int32 → Option (Int32 × Int32 × Int32 × (Nat → Int64) × (Nat → Int32) × (Nat → Int32))
  | 0, _, _, _, _, _, _, _, _, _ => none
  | n + 1, xn, xw, vn, vd, vc, vp, vo, x1, x2 => if x2 < (0 : Int32) then some (xn, vn, vd, vc, vp, vo) else gi x2 1024 ((f_X_rankOf (xw x2.toNatClampNeg)).bind (fun o_2 => if o_2 < x1 then some (xn, vn, vd, vc, vp, vo) else gi x2 1024 (if (0 : Int32) ≤ (xw x2.toNatClampNeg) then (f_V_applyBetween vn vd vc vp vo (xw x2.toNatClampNeg)).bind (fun o_5 => f_X_applyWaiting_l7 n x2 xw o_5.1 o_5.2.1 o_5.2.2.1 o_5.2.2.2.1 o_5.2.2.2.2 x1 (x2 + (-1 : Int32))) else (f_V_applyInFront vn vd vc vp (-(xw x2.toNatClampNeg))).bind (fun o_6 => f_X_applyWaiting_l7 n x2 xw vn o_6.1 o_6.2 vp vo x1 (x2 + (-1 : Int32))))))
def f_X_applyWaiting (xn : Int32) (xw : Nat → Int32) (vn : Int32) (vd : Int32) (vc : Nat → Int64) (vp : Nat → Int32) (vo : Nat → Int32) (p0 : Int32) : Option (Int32 × Int32 × Int32 × (Nat → Int64) × (Nat → Int32) × (Nat → Int32)) := f_X_applyWaiting_l7 FU xn xw vn vd vc vp vo p0 (xn - (1 : Int32))
set_option maxHeartbeats 4000000 in
set_option maxRecDepth 100000 in
theorem c_X_applyWaiting (l : Launch) (dC : Nat → ClassId) (dI : Nat → Nat → Nat) (aX aM aY aV aC aP aO : Nat) (cY cC cP cO : ClassId) (sz : Nat) (xn : Int32) (xw : Nat → Int32) (vn : Int32) (vd : Int32) (vc : Nat → Int64) (vp : Nat → Int32) (vo : Nat → Int32) (p0 : Int32) (o : Int32 × Int32 × Int32 × (Nat → Int64) × (Nat → Int32) × (Nat → Int32)) (hf : f_X_applyWaiting xn xw vn vd vc vp vo p0 = some o) : Met l y_X_applyWaiting (w_X_applyWaiting) ({ frames := 3, cells := 0, slots := 0, locals := 73 }) (va_Pc [.ref aX, .int p0] (fun U => U.heap.size = sz ∧ va_P (dC, dI) vwCl [(aX, .inr (5, [.ref aM, .ref aY, .int xn, .ref aV])), (aY, .inl (cY, 1024, .inl xw)), (aV, .inr (6, [.ref aC, .ref aP, .ref aO, .int vn, .int vd])), (aC, .inl (cC, 512, .inr (.inl vc))), (aP, .inl (cP, 512, .inl vp)), (aO, .inl (cO, 512, .inl vo))] U.heap ∧ va_K (dC, dI) vwCl [(cY, .byte), (cC, .long), (cP, .int), (cO, .int)] U ∧ va_D (fun _ => True) [(aX, .inr (5, [.ref aM, .ref aY, .int xn, .ref aV])), (aY, .inl (cY, 1024, .inl xw)), (aV, .inr (6, [.ref aC, .ref aP, .ref aO, .int vn, .int vd])), (aC, .inl (cC, 512, .inr (.inl vc))), (aP, .inl (cP, 512, .inl vp)), (aO, .inl (cO, 512, .inl vo))] ∧ NW U)) (va_Qv (fun (_ : Unit) => True) (fun _ t => va_P (dC, dI) vwCl [(aX, .inr (5, [.ref aM, .ref aY, .int o.1, .ref aV])), (aY, .inl (cY, 1024, .inl xw)), (aV, .inr (6, [.ref aC, .ref aP, .ref aO, .int o.2.1, .int o.2.2.1])), (aC, .inl (cC, 512, .inr (.inl o.2.2.2.1))), (aP, .inl (cP, 512, .inl o.2.2.2.2.1)), (aO, .inl (cO, 512, .inl o.2.2.2.2.2))] t.heap ∧ va_K (dC, dI) vwCl [(cY, .byte), (cC, .long), (cP, .int), (cO, .int)] t ∧ va_D (va_A [(aX, .inr (5, [.ref aM, .ref aY, .int xn, .ref aV])), (aY, .inl (cY, 1024, .inl xw)), (aV, .inr (6, [.ref aC, .ref aP, .ref aO, .int vn, .int vd])), (aC, .inl (cC, 512, .inr (.inl vc))), (aP, .inl (cP, 512, .inl vp)), (aO, .inl (cO, 512, .inl vo))] sz) [(aX, .inr (5, [.ref aM, .ref aY, .int o.1, .ref aV])), (aY, .inl (cY, 1024, .inl xw)), (aV, .inr (6, [.ref aC, .ref aP, .ref aO, .int o.2.1, .int o.2.2.1])), (aC, .inl (cC, 512, .inr (.inl o.2.2.2.1))), (aP, .inl (cP, 512, .inl o.2.2.2.2.1)), (aO, .inl (cO, 512, .inl o.2.2.2.2.2))]) (va_A [(aX, .inr (5, [.ref aM, .ref aY, .int xn, .ref aV])), (aY, .inl (cY, 1024, .inl xw)), (aV, .inr (6, [.ref aC, .ref aP, .ref aO, .int vn, .int vd])), (aC, .inl (cC, 512, .inr (.inl vc))), (aP, .inl (cP, 512, .inl vp)), (aO, .inl (cO, 512, .inl vo))] sz)) 0 0 (va_A [(aX, .inr (5, [.ref aM, .ref aY, .int xn, .ref aV])), (aY, .inl (cY, 1024, .inl xw)), (aV, .inr (6, [.ref aC, .ref aP, .ref aO, .int vn, .int vd])), (aC, .inl (cC, 512, .inr (.inl vc))), (aP, .inl (cP, 512, .inl vp)), (aO, .inl (cO, 512, .inl vo))] sz) := by
  refine Met.ofW (cc := b_X_applyWaiting) (maxL := 4) (ret := none) (by decide) rfl ?_
  intro p e s m args below meth c s₁ B hml hv
  obtain ⟨rfl, hsz, hP, hK, hD0, hN⟩ := hv
  have hx := B.exec
  have hb := B.bytes
  have hr := B.returns
  have hts : ∀ w ∈ WB, w.before _ s = true := fun w h => atoms_spec (ws := w_X_applyWaiting) B.pre w (List.mem_cons_of_mem _ h)
  have hown : s.vm.findClass R_X = some m.cls := findClass_of_methodNamed B.named
  have hlocks := B.notSynchronized
  subst hsz
  have hD := hD0.self (sz := s.heap.size)
  generalize hAe : va_A [(aX, .inr (5, [.ref aM, .ref aY, .int xn, .ref aV])), (aY, .inl (cY, 1024, .inl xw)), (aV, .inr (6, [.ref aC, .ref aP, .ref aO, .int vn, .int vd])), (aC, .inl (cC, 512, .inr (.inl vc))), (aP, .inl (cP, 512, .inl vp)), (aO, .inl (cO, 512, .inl vo))] s.heap.size = A at hD ⊢
  have hA : ∀ q : Nat, s.heap.size ≤ q → A q := fun q h => by rw [← hAe]; exact Or.inr h
  have hS : va_S A s.heap s.heap [] := va_S.rf
  have hP : va_P (dC, dI) vwCl [(aX, .inr (5, [.ref aM, .ref aY, .int xn, .ref aV])), (aY, .inl (cY, 1024, .inl xw)), (aV, .inr (6, [.ref aC, .ref aP, .ref aO, .int vn, .int vd])), (aC, .inl (cC, 512, .inr (.inl vc))), (aP, .inl (cP, 512, .inl vp)), (aO, .inl (cO, 512, .inl vo))] s.heap := hP
  have hl := lv_entry [.ref aX, .int p0] (n := 4) (Nat.le_of_ble_eq_true rfl)
  rw [lg_entry_eq]
  generalize (lg_sl [.ref aX, .int p0] ++ List.replicate (4 - (lg_sl [.ref aX, .int p0]).length) Slot.unset).toArray = ls at hl ⊢
  have hl : lv_has ls 4 [(0, .ref aX), (1, .int p0)] := hl
  have loop_7 : ∀ (n : Nat) (xn : Int32) (xw : Nat → Int32) (vn : Int32) (vd : Int32) (vc : Nat → Int64) (vp : Nat → Int32) (vo : Nat → Int32) (x1 : Int32) (x2 : Int32) (H : Heap) (locs : List Loc) (ls : Array Slot), f_X_applyWaiting_l7 n xn xw vn vd vc vp vo x1 x2 = some o → va_P (dC, dI) vwCl [(aX, .inr (5, [.ref aM, .ref aY, .int xn, .ref aV])), (aY, .inl (cY, 1024, .inl xw)), (aV, .inr (6, [.ref aC, .ref aP, .ref aO, .int vn, .int vd])), (aC, .inl (cC, 512, .inr (.inl vc))), (aP, .inl (cP, 512, .inl vp)), (aO, .inl (cO, 512, .inl vo))] H → va_D A [(aX, .inr (5, [.ref aM, .ref aY, .int xn, .ref aV])), (aY, .inl (cY, 1024, .inl xw)), (aV, .inr (6, [.ref aC, .ref aP, .ref aO, .int vn, .int vd])), (aC, .inl (cC, 512, .inr (.inl vc))), (aP, .inl (cP, 512, .inl vp)), (aO, .inl (cO, 512, .inl vo))] → va_S A s.heap H locs → lv_has ls 4 [(0, .ref aX), (1, .int x1), (2, .int x2)] → W p l e (headSpec (w_X_applyWaiting) ({ frames := 3, cells := 0, slots := 0, locals := 73 })).room s m [.ref aX, .int p0].toArray below meth c H locs 0 0 (MQ below (va_Qv (fun (_ : Unit) => True) (fun _ t => va_P (dC, dI) vwCl [(aX, .inr (5, [.ref aM, .ref aY, .int o.1, .ref aV])), (aY, .inl (cY, 1024, .inl xw)), (aV, .inr (6, [.ref aC, .ref aP, .ref aO, .int o.2.1, .int o.2.2.1])), (aC, .inl (cC, 512, .inr (.inl o.2.2.2.1))), (aP, .inl (cP, 512, .inl o.2.2.2.2.1)), (aO, .inl (cO, 512, .inl o.2.2.2.2.2))] t.heap ∧ va_K (dC, dI) vwCl [(cY, .byte), (cC, .long), (cP, .int), (cO, .int)] t ∧ va_D A [(aX, .inr (5, [.ref aM, .ref aY, .int o.1, .ref aV])), (aY, .inl (cY, 1024, .inl xw)), (aV, .inr (6, [.ref aC, .ref aP, .ref aO, .int o.2.1, .int o.2.2.1])), (aC, .inl (cC, 512, .inr (.inl o.2.2.2.1))), (aP, .inl (cP, 512, .inl o.2.2.2.2.1)), (aO, .inl (cO, 512, .inl o.2.2.2.2.2))]) A) [.ref aX, .int p0].toArray s 0 0 A) (F0 m 7 ls []) := by
    intro n
    induction n with
    | zero => intro xn xw vn vd vc vp vo x1 x2 H locs ls hf; exact absurd hf (by simp [f_X_applyWaiting_l7])
    | succ n ih =>
      intro xn xw vn vd vc vp vo x1 x2 H locs ls hf hP hD hS hl
      rw [f_X_applyWaiting_l7] at hf
      refine lv_iload_n hx hb d_X_applyWaiting_7 rfl (lv_at hl 2 rfl) ?_
      refine lv_if_lt (tgt := 66) hx hb d_X_applyWaiting_8 (by decide) (fun c_1 => ?_) (fun c_1 => ?_)
      · rw [if_pos c_1] at hf
        have ho := Option.some.inj hf
        subst o
        have hP9 := hP.sub (ws' := [(aX, .inr (5, [.ref aM, .ref aY, .int xn, .ref aV])), (aY, .inl (cY, 1024, .inl xw)), (aV, .inr (6, [.ref aC, .ref aP, .ref aO, .int vn, .int vd])), (aC, .inl (cC, 512, .inr (.inl vc))), (aP, .inl (cP, 512, .inl vp)), (aO, .inl (cO, 512, .inl vo))]) [0, 1, 2, 3, 4, 5] rfl
        have hD9 := hD.sub (ws' := [(aX, .inr (5, [.ref aM, .ref aY, .int xn, .ref aV])), (aY, .inl (cY, 1024, .inl xw)), (aV, .inr (6, [.ref aC, .ref aP, .ref aO, .int vn, .int vd])), (aC, .inl (cC, 512, .inr (.inl vc))), (aP, .inl (cP, 512, .inl vp)), (aO, .inl (cO, 512, .inl vo))]) [0, 1, 2, 3, 4, 5] (by decide) rfl
        exact W.vret hx hb hr (fun t ht hW => ⟨⟨(), rfl, trivial, by rw [ht]; exact hP9, va_K.moved hW.alike hK, hD9⟩, hS.F ht⟩) hS.2.2 d_X_applyWaiting_66
      · rw [if_neg c_1] at hf
        refine lv_aload_n hx hb d_X_applyWaiting_11 rfl (lv_at hl 0 rfl) ?_
        refine va_get (D := (dC, dI)) (ci := 5) (v := .ref aY) (C := R_X) (T := F_X) (N := 4) hx hb hts i_X hown hK hP 0 rfl rfl 1 (by decide) (hts _ wb_160) (fun _ h9 => h9) rfl d_X_applyWaiting_12 ?_
        refine lv_iload_n hx hb d_X_applyWaiting_15 rfl (lv_at hl 2 rfl) ?_
        obtain ⟨hin, hf⟩ := gi_some hf
        refine va_bald hx hb hK hP 1 0 rfl rfl hin d_X_applyWaiting_16 ?_
        obtain ⟨o_2, hM_2, hf⟩ := bd_some hf
        refine cr_i (va_runS (As := [.int (xw x2.toNatClampNeg)]) (rest := []) ⟨hx, hb, hml, hown, hts⟩ (c_X_rankOf l dC dI   H.size  (xw x2.toNatClampNeg) o_2 hM_2) (va_cwS 1 hts (gwS wb_161 wb_163 wb_158 wb_162) rfl rfl rfl (by decide +kernel) ⟨Nat.le_of_ble_eq_true rfl, Nat.le_of_ble_eq_true rfl⟩) (pr_S (hP.sub [] rfl) (hD.sub [] (by decide) rfl) hK hN [] rfl) rfl rfl hl.1 rfl (lv_room (Nat.le_of_ble_eq_true rfl)) d_X_applyWaiting_17 ⟨Nat.zero_le _, Nat.zero_le _⟩) hP hD hS hA (in_of [] rfl) (fun r_2 H locs hw hP hS => ?_)
        subst r_2
        refine lv_iload_n hx hb d_X_applyWaiting_20 rfl (lv_at hl 1 rfl) ?_
        refine lv_icmp_lt (tgt := 66) hx hb d_X_applyWaiting_21 (by decide) (fun c_3 => ?_) (fun c_3 => ?_)
        · rw [if_pos c_3] at hf
          have ho := Option.some.inj hf
          subst o
          have hP9 := hP.sub (ws' := [(aX, .inr (5, [.ref aM, .ref aY, .int xn, .ref aV])), (aY, .inl (cY, 1024, .inl xw)), (aV, .inr (6, [.ref aC, .ref aP, .ref aO, .int vn, .int vd])), (aC, .inl (cC, 512, .inr (.inl vc))), (aP, .inl (cP, 512, .inl vp)), (aO, .inl (cO, 512, .inl vo))]) [0, 1, 2, 3, 4, 5] rfl
          have hD9 := hD.sub (ws' := [(aX, .inr (5, [.ref aM, .ref aY, .int xn, .ref aV])), (aY, .inl (cY, 1024, .inl xw)), (aV, .inr (6, [.ref aC, .ref aP, .ref aO, .int vn, .int vd])), (aC, .inl (cC, 512, .inr (.inl vc))), (aP, .inl (cP, 512, .inl vp)), (aO, .inl (cO, 512, .inl vo))]) [0, 1, 2, 3, 4, 5] (by decide) rfl
          exact W.vret hx hb hr (fun t ht hW => ⟨⟨(), rfl, trivial, by rw [ht]; exact hP9, va_K.moved hW.alike hK, hD9⟩, hS.F ht⟩) hS.2.2 d_X_applyWaiting_66
        · rw [if_neg c_3] at hf
          refine lv_aload_n hx hb d_X_applyWaiting_24 rfl (lv_at hl 0 rfl) ?_
          refine va_get (D := (dC, dI)) (ci := 5) (v := .ref aY) (C := R_X) (T := F_X) (N := 4) hx hb hts i_X hown hK hP 0 rfl rfl 1 (by decide) (hts _ wb_160) (fun _ h9 => h9) rfl d_X_applyWaiting_25 ?_
          refine lv_iload_n hx hb d_X_applyWaiting_28 rfl (lv_at hl 2 rfl) ?_
          obtain ⟨hin, hf⟩ := gi_some hf
          refine va_bald hx hb hK hP 1 0 rfl rfl hin d_X_applyWaiting_29 ?_
          refine lv_istore_n (lv' := [(3, .int (xw x2.toNatClampNeg)), (0, .ref aX), (1, .int x1), (2, .int x2)]) hx hb d_X_applyWaiting_30 rfl hl (by decide) rfl (fun ls hl => ?_)
          refine lv_iload_n hx hb d_X_applyWaiting_31 rfl (lv_at hl 0 rfl) ?_
          refine lv_if_ge (tgt := 47) hx hb d_X_applyWaiting_32 (by decide) (fun c_4 => ?_) (fun c_4 => ?_)
          · rw [if_pos c_4] at hf
            refine lv_aload_n hx hb d_X_applyWaiting_47 rfl (lv_at hl 1 rfl) ?_
            refine va_get (D := (dC, dI)) (ci := 5) (v := .ref aV) (C := R_X) (T := F_X) (N := 4) hx hb hts i_X hown hK hP 0 rfl rfl 3 (by decide) (hts _ wb_135) (fun _ h9 => h9) rfl d_X_applyWaiting_48 ?_
            refine lv_iload_n hx hb d_X_applyWaiting_51 rfl (lv_at hl 0 rfl) ?_
            obtain ⟨o_5, hM_5, hf⟩ := bd_some hf
            refine cl_v (wr := [(aX, .inr (5, [.ref aM, .ref aY, .int xn, .ref aV])), (aY, .inl (cY, 1024, .inl xw))]) (va_runV (As := [.int (xw x2.toNatClampNeg)]) (rest := []) ⟨hx, hb, hml, hown, hts⟩ (c_V_applyBetween l dC dI aV aC aP aO cC cP cO H.size vn vd vc vp vo (xw x2.toNatClampNeg) o_5 hM_5) (cwV 1 hts (gwV wb_164 wb_166 wb_167 wb_112 wb_165) rfl rfl rfl (by decide +kernel) ⟨Nat.le_of_ble_eq_true rfl, Nat.le_of_ble_eq_true rfl⟩) (pr_V (hP.sub [2, 3, 4, 5] rfl) (hD.sub [2, 3, 4, 5] (by decide) rfl) hK hN [1, 2, 3] rfl (ci := 6) rfl rfl rfl) rfl rfl hl.1 rfl (lv_room (Nat.le_of_ble_eq_true rfl)) d_X_applyWaiting_52 ⟨Nat.zero_le _, Nat.zero_le _⟩) hP hD hS hA [2, 3, 4, 5] [0, 1] rfl rfl (by decide) (by decide) (fun H locs hw hP hD hS => ?_)
            have hP : va_P (dC, dI) vwCl [(aX, .inr (5, [.ref aM, .ref aY, .int xn, .ref aV])), (aY, .inl (cY, 1024, .inl xw)), (aV, .inr (6, [.ref aC, .ref aP, .ref aO, .int o_5.1, .int o_5.2.1])), (aC, .inl (cC, 512, .inr (.inl o_5.2.2.1))), (aP, .inl (cP, 512, .inl o_5.2.2.2.1)), (aO, .inl (cO, 512, .inl o_5.2.2.2.2))] H := hP
            have hD : va_D A [(aX, .inr (5, [.ref aM, .ref aY, .int xn, .ref aV])), (aY, .inl (cY, 1024, .inl xw)), (aV, .inr (6, [.ref aC, .ref aP, .ref aO, .int o_5.1, .int o_5.2.1])), (aC, .inl (cC, 512, .inr (.inl o_5.2.2.1))), (aP, .inl (cP, 512, .inl o_5.2.2.2.1)), (aO, .inl (cO, 512, .inl o_5.2.2.2.2))] := hD
            refine lv_aload_n hx hb d_X_applyWaiting_55 rfl (lv_at hl 1 rfl) ?_
            refine lv_iload_n hx hb d_X_applyWaiting_56 rfl (lv_at hl 3 rfl) ?_
            refine va_put (D := (dC, dI)) (ci := 5) (v := .int x2) (ty := .int) (C := R_X) (T := F_X) (N := 4) hx hb hts i_X ft_X tk_X n_X hown hK hP hD hS 0 rfl rfl 2 (by decide) (hts _ wb_159) (fun _ h9 => h9) rfl (by decide +kernel) rfl rfl (Nat.le_of_ble_eq_true rfl) d_X_applyWaiting_57 (fun H locs hP hD hS => ?_)
            have hP : va_P (dC, dI) vwCl [(aX, .inr (5, [.ref aM, .ref aY, .int x2, .ref aV])), (aY, .inl (cY, 1024, .inl xw)), (aV, .inr (6, [.ref aC, .ref aP, .ref aO, .int o_5.1, .int o_5.2.1])), (aC, .inl (cC, 512, .inr (.inl o_5.2.2.1))), (aP, .inl (cP, 512, .inl o_5.2.2.2.1)), (aO, .inl (cO, 512, .inl o_5.2.2.2.2))] H := hP
            have hD : va_D A [(aX, .inr (5, [.ref aM, .ref aY, .int x2, .ref aV])), (aY, .inl (cY, 1024, .inl xw)), (aV, .inr (6, [.ref aC, .ref aP, .ref aO, .int o_5.1, .int o_5.2.1])), (aC, .inl (cC, 512, .inr (.inl o_5.2.2.1))), (aP, .inl (cP, 512, .inl o_5.2.2.2.1)), (aO, .inl (cO, 512, .inl o_5.2.2.2.2))] := hD
            refine lv_iinc (v := x2 + (-1 : Int32)) (lv' := [(2, .int (x2 + (-1 : Int32))), (3, .int (xw x2.toNatClampNeg)), (0, .ref aX), (1, .int x1)]) hx hb d_X_applyWaiting_60 hl (k := 3) rfl rfl (by decide) rfl (fun ls hl => ?_)
            refine lv_goto (tgt := 7) hx hb d_X_applyWaiting_63 (by decide) ?_
            exact ih x2 xw o_5.1 o_5.2.1 o_5.2.2.1 o_5.2.2.2.1 o_5.2.2.2.2 x1 (x2 + (-1 : Int32)) H locs ls hf (hP.sub (ws' := [(aX, .inr (5, [.ref aM, .ref aY, .int x2, .ref aV])), (aY, .inl (cY, 1024, .inl xw)), (aV, .inr (6, [.ref aC, .ref aP, .ref aO, .int o_5.1, .int o_5.2.1])), (aC, .inl (cC, 512, .inr (.inl o_5.2.2.1))), (aP, .inl (cP, 512, .inl o_5.2.2.2.1)), (aO, .inl (cO, 512, .inl o_5.2.2.2.2))]) [0, 1, 2, 3, 4, 5] rfl) (hD.sub (ws' := [(aX, .inr (5, [.ref aM, .ref aY, .int x2, .ref aV])), (aY, .inl (cY, 1024, .inl xw)), (aV, .inr (6, [.ref aC, .ref aP, .ref aO, .int o_5.1, .int o_5.2.1])), (aC, .inl (cC, 512, .inr (.inl o_5.2.2.1))), (aP, .inl (cP, 512, .inl o_5.2.2.2.1)), (aO, .inl (cO, 512, .inl o_5.2.2.2.2))]) [0, 1, 2, 3, 4, 5] (by decide) rfl) hS (lv_sub hl [2, 3, 0] rfl)
          · rw [if_neg c_4] at hf
            refine lv_aload_n hx hb d_X_applyWaiting_35 rfl (lv_at hl 1 rfl) ?_
            refine va_get (D := (dC, dI)) (ci := 5) (v := .ref aV) (C := R_X) (T := F_X) (N := 4) hx hb hts i_X hown hK hP 0 rfl rfl 3 (by decide) (hts _ wb_135) (fun _ h9 => h9) rfl d_X_applyWaiting_36 ?_
            refine lv_iload_n hx hb d_X_applyWaiting_39 rfl (lv_at hl 0 rfl) ?_
            refine lv_ineg hx hb d_X_applyWaiting_40 ?_
            obtain ⟨o_6, hM_6, hf⟩ := bd_some hf
            refine cl_v (wr := [(aX, .inr (5, [.ref aM, .ref aY, .int xn, .ref aV])), (aY, .inl (cY, 1024, .inl xw)), (aO, .inl (cO, 512, .inl vo))]) (va_runV (As := [.int (-(xw x2.toNatClampNeg))]) (rest := []) ⟨hx, hb, hml, hown, hts⟩ (c_V_applyInFront l dC dI aV aC aP aO cC cP H.size vn vd vc vp (-(xw x2.toNatClampNeg)) o_6 hM_6) (cwV 1 hts (gwV wb_168 wb_170 wb_171 wb_112 wb_169) rfl rfl rfl (by decide +kernel) ⟨Nat.le_of_ble_eq_true rfl, Nat.le_of_ble_eq_true rfl⟩) (pr_V (hP.sub [2, 3, 4] rfl) (hD.sub [2, 3, 4] (by decide) rfl) hK hN [1, 2] rfl (ci := 6) rfl rfl rfl) rfl rfl hl.1 rfl (lv_room (Nat.le_of_ble_eq_true rfl)) d_X_applyWaiting_41 ⟨Nat.zero_le _, Nat.zero_le _⟩) hP hD hS hA [2, 3, 4] [0, 1, 5] rfl rfl (by decide) (by decide) (fun H locs hw hP hD hS => ?_)
            have hP : va_P (dC, dI) vwCl [(aX, .inr (5, [.ref aM, .ref aY, .int xn, .ref aV])), (aY, .inl (cY, 1024, .inl xw)), (aO, .inl (cO, 512, .inl vo)), (aV, .inr (6, [.ref aC, .ref aP, .ref aO, .int vn, .int o_6.1])), (aC, .inl (cC, 512, .inr (.inl o_6.2))), (aP, .inl (cP, 512, .inl vp))] H := hP
            have hD : va_D A [(aX, .inr (5, [.ref aM, .ref aY, .int xn, .ref aV])), (aY, .inl (cY, 1024, .inl xw)), (aO, .inl (cO, 512, .inl vo)), (aV, .inr (6, [.ref aC, .ref aP, .ref aO, .int vn, .int o_6.1])), (aC, .inl (cC, 512, .inr (.inl o_6.2))), (aP, .inl (cP, 512, .inl vp))] := hD
            refine lv_goto (tgt := 55) hx hb d_X_applyWaiting_44 (by decide) ?_
            refine lv_aload_n hx hb d_X_applyWaiting_55 rfl (lv_at hl 1 rfl) ?_
            refine lv_iload_n hx hb d_X_applyWaiting_56 rfl (lv_at hl 3 rfl) ?_
            refine va_put (D := (dC, dI)) (ci := 5) (v := .int x2) (ty := .int) (C := R_X) (T := F_X) (N := 4) hx hb hts i_X ft_X tk_X n_X hown hK hP hD hS 0 rfl rfl 2 (by decide) (hts _ wb_159) (fun _ h9 => h9) rfl (by decide +kernel) rfl rfl (Nat.le_of_ble_eq_true rfl) d_X_applyWaiting_57 (fun H locs hP hD hS => ?_)
            have hP : va_P (dC, dI) vwCl [(aX, .inr (5, [.ref aM, .ref aY, .int x2, .ref aV])), (aY, .inl (cY, 1024, .inl xw)), (aO, .inl (cO, 512, .inl vo)), (aV, .inr (6, [.ref aC, .ref aP, .ref aO, .int vn, .int o_6.1])), (aC, .inl (cC, 512, .inr (.inl o_6.2))), (aP, .inl (cP, 512, .inl vp))] H := hP
            have hD : va_D A [(aX, .inr (5, [.ref aM, .ref aY, .int x2, .ref aV])), (aY, .inl (cY, 1024, .inl xw)), (aO, .inl (cO, 512, .inl vo)), (aV, .inr (6, [.ref aC, .ref aP, .ref aO, .int vn, .int o_6.1])), (aC, .inl (cC, 512, .inr (.inl o_6.2))), (aP, .inl (cP, 512, .inl vp))] := hD
            refine lv_iinc (v := x2 + (-1 : Int32)) (lv' := [(2, .int (x2 + (-1 : Int32))), (3, .int (xw x2.toNatClampNeg)), (0, .ref aX), (1, .int x1)]) hx hb d_X_applyWaiting_60 hl (k := 3) rfl rfl (by decide) rfl (fun ls hl => ?_)
            refine lv_goto (tgt := 7) hx hb d_X_applyWaiting_63 (by decide) ?_
            exact ih x2 xw vn o_6.1 o_6.2 vp vo x1 (x2 + (-1 : Int32)) H locs ls hf (hP.sub (ws' := [(aX, .inr (5, [.ref aM, .ref aY, .int x2, .ref aV])), (aY, .inl (cY, 1024, .inl xw)), (aV, .inr (6, [.ref aC, .ref aP, .ref aO, .int vn, .int o_6.1])), (aC, .inl (cC, 512, .inr (.inl o_6.2))), (aP, .inl (cP, 512, .inl vp)), (aO, .inl (cO, 512, .inl vo))]) [0, 1, 3, 4, 5, 2] rfl) (hD.sub (ws' := [(aX, .inr (5, [.ref aM, .ref aY, .int x2, .ref aV])), (aY, .inl (cY, 1024, .inl xw)), (aV, .inr (6, [.ref aC, .ref aP, .ref aO, .int vn, .int o_6.1])), (aC, .inl (cC, 512, .inr (.inl o_6.2))), (aP, .inl (cP, 512, .inl vp)), (aO, .inl (cO, 512, .inl vo))]) [0, 1, 3, 4, 5, 2] (by decide) rfl) hS (lv_sub hl [2, 3, 0] rfl)
  rw [f_X_applyWaiting] at hf
  refine lv_aload_n hx hb d_X_applyWaiting_0 rfl (lv_at hl 0 rfl) ?_
  refine va_get (D := (dC, dI)) (ci := 5) (v := .int xn) (C := R_X) (T := F_X) (N := 4) hx hb hts i_X hown hK hP 0 rfl rfl 2 (by decide) (hts _ wb_159) (fun _ h9 => h9) rfl d_X_applyWaiting_1 ?_
  refine lv_iconst (v := (1 : Int32)) hx hb d_X_applyWaiting_4 (by decide) ?_
  refine lv_isub hx hb d_X_applyWaiting_5 ?_
  refine lv_istore_n (lv' := [(2, .int (xn - (1 : Int32))), (0, .ref aX), (1, .int p0)]) hx hb d_X_applyWaiting_6 rfl hl (by decide) rfl (fun ls hl => ?_)
  exact loop_7 FU xn xw vn vd vc vp vo p0 (xn - (1 : Int32)) s.heap [] ls hf (hP.sub (ws' := [(aX, .inr (5, [.ref aM, .ref aY, .int xn, .ref aV])), (aY, .inl (cY, 1024, .inl xw)), (aV, .inr (6, [.ref aC, .ref aP, .ref aO, .int vn, .int vd])), (aC, .inl (cC, 512, .inr (.inl vc))), (aP, .inl (cP, 512, .inl vp)), (aO, .inl (cO, 512, .inl vo))]) [0, 1, 2, 3, 4, 5] rfl) (hD.sub (ws' := [(aX, .inr (5, [.ref aM, .ref aY, .int xn, .ref aV])), (aY, .inl (cY, 1024, .inl xw)), (aV, .inr (6, [.ref aC, .ref aP, .ref aO, .int vn, .int vd])), (aC, .inl (cC, 512, .inr (.inl vc))), (aP, .inl (cP, 512, .inl vp)), (aO, .inl (cO, 512, .inl vo))]) [0, 1, 2, 3, 4, 5] (by decide) rfl) hS (lv_sub hl [1, 2, 0] rfl)
