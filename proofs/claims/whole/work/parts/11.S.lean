theorem d_S_isDigit_0 : decode b_S_isDigit 0 = .ok (.iload_n 0, 1) := by decide +kernel
theorem d_S_isDigit_1 : decode b_S_isDigit 1 = .ok (.bipush 48, 2) := by decide +kernel
theorem d_S_isDigit_3 : decode b_S_isDigit 3 = .ok (.if_icmp .lt 13, 3) := by decide +kernel
theorem d_S_isDigit_6 : decode b_S_isDigit 6 = .ok (.iload_n 0, 1) := by decide +kernel
theorem d_S_isDigit_7 : decode b_S_isDigit 7 = .ok (.bipush 57, 2) := by decide +kernel
theorem d_S_isDigit_9 : decode b_S_isDigit 9 = .ok (.if_icmp .gt 7, 3) := by decide +kernel
theorem d_S_isDigit_12 : decode b_S_isDigit 12 = .ok (.iconst 1, 1) := by decide +kernel
theorem d_S_isDigit_13 : decode b_S_isDigit 13 = .ok (.goto 4, 3) := by decide +kernel
theorem d_S_isDigit_16 : decode b_S_isDigit 16 = .ok (.iconst 0, 1) := by decide +kernel
theorem d_S_isDigit_17 : decode b_S_isDigit 17 = .ok (.ireturn, 1) := by decide +kernel
theorem d_S_isOfNames_0 : decode b_S_isOfNames 0 = .ok (.iload_n 0, 1) := by decide +kernel
theorem d_S_isOfNames_1 : decode b_S_isOfNames 1 = .ok (.bipush 97, 2) := by decide +kernel
theorem d_S_isOfNames_3 : decode b_S_isOfNames 3 = .ok (.if_icmp .lt 9, 3) := by decide +kernel
theorem d_S_isOfNames_6 : decode b_S_isOfNames 6 = .ok (.iload_n 0, 1) := by decide +kernel
theorem d_S_isOfNames_7 : decode b_S_isOfNames 7 = .ok (.bipush 122, 2) := by decide +kernel
theorem d_S_isOfNames_9 : decode b_S_isOfNames 9 = .ok (.if_icmp .le 34, 3) := by decide +kernel
theorem d_S_isOfNames_12 : decode b_S_isOfNames 12 = .ok (.iload_n 0, 1) := by decide +kernel
theorem d_S_isOfNames_13 : decode b_S_isOfNames 13 = .ok (.bipush 65, 2) := by decide +kernel
theorem d_S_isOfNames_15 : decode b_S_isOfNames 15 = .ok (.if_icmp .lt 9, 3) := by decide +kernel
theorem d_S_isOfNames_18 : decode b_S_isOfNames 18 = .ok (.iload_n 0, 1) := by decide +kernel
theorem d_S_isOfNames_19 : decode b_S_isOfNames 19 = .ok (.bipush 90, 2) := by decide +kernel
theorem d_S_isOfNames_21 : decode b_S_isOfNames 21 = .ok (.if_icmp .le 22, 3) := by decide +kernel
theorem d_S_isOfNames_24 : decode b_S_isOfNames 24 = .ok (.iload_n 0, 1) := by decide +kernel
theorem d_S_isOfNames_25 : decode b_S_isOfNames 25 = .ok (.invokestatic 9, 3) := by decide +kernel
theorem d_S_isOfNames_28 : decode b_S_isOfNames 28 = .ok (.ifCond .ne 15, 3) := by decide +kernel
theorem d_S_isOfNames_31 : decode b_S_isOfNames 31 = .ok (.iload_n 0, 1) := by decide +kernel
theorem d_S_isOfNames_32 : decode b_S_isOfNames 32 = .ok (.bipush 95, 2) := by decide +kernel
theorem d_S_isOfNames_34 : decode b_S_isOfNames 34 = .ok (.if_icmp .eq 9, 3) := by decide +kernel
theorem d_S_isOfNames_37 : decode b_S_isOfNames 37 = .ok (.iload_n 0, 1) := by decide +kernel
theorem d_S_isOfNames_38 : decode b_S_isOfNames 38 = .ok (.bipush 46, 2) := by decide +kernel
theorem d_S_isOfNames_40 : decode b_S_isOfNames 40 = .ok (.if_icmp .ne 7, 3) := by decide +kernel
theorem d_S_isOfNames_43 : decode b_S_isOfNames 43 = .ok (.iconst 1, 1) := by decide +kernel
theorem d_S_isOfNames_44 : decode b_S_isOfNames 44 = .ok (.goto 4, 3) := by decide +kernel
theorem d_S_isOfNames_47 : decode b_S_isOfNames 47 = .ok (.iconst 0, 1) := by decide +kernel
theorem d_S_isOfNames_48 : decode b_S_isOfNames 48 = .ok (.ireturn, 1) := by decide +kernel
theorem d_S_isPrintable_0 : decode b_S_isPrintable 0 = .ok (.iload_n 0, 1) := by decide +kernel
theorem d_S_isPrintable_1 : decode b_S_isPrintable 1 = .ok (.bipush 32, 2) := by decide +kernel
theorem d_S_isPrintable_3 : decode b_S_isPrintable 3 = .ok (.if_icmp .lt 13, 3) := by decide +kernel
theorem d_S_isPrintable_6 : decode b_S_isPrintable 6 = .ok (.iload_n 0, 1) := by decide +kernel
theorem d_S_isPrintable_7 : decode b_S_isPrintable 7 = .ok (.bipush 126, 2) := by decide +kernel
theorem d_S_isPrintable_9 : decode b_S_isPrintable 9 = .ok (.if_icmp .gt 7, 3) := by decide +kernel
theorem d_S_isPrintable_12 : decode b_S_isPrintable 12 = .ok (.iconst 1, 1) := by decide +kernel
theorem d_S_isPrintable_13 : decode b_S_isPrintable 13 = .ok (.goto 4, 3) := by decide +kernel
theorem d_S_isPrintable_16 : decode b_S_isPrintable 16 = .ok (.iconst 0, 1) := by decide +kernel
theorem d_S_isPrintable_17 : decode b_S_isPrintable 17 = .ok (.ireturn, 1) := by decide +kernel
theorem d_S_nextStart_0 : decode b_S_nextStart 0 = .ok (.iload_n 1, 1) := by decide +kernel
theorem d_S_nextStart_1 : decode b_S_nextStart 1 = .ok (.istore_n 2, 1) := by decide +kernel
theorem d_S_nextStart_2 : decode b_S_nextStart 2 = .ok (.iload_n 2, 1) := by decide +kernel
theorem d_S_nextStart_3 : decode b_S_nextStart 3 = .ok (.aload_n 0, 1) := by decide +kernel
theorem d_S_nextStart_4 : decode b_S_nextStart 4 = .ok (.invokevirtual 15, 3) := by decide +kernel
theorem d_S_nextStart_7 : decode b_S_nextStart 7 = .ok (.if_icmp .ge 40, 3) := by decide +kernel
theorem d_S_nextStart_10 : decode b_S_nextStart 10 = .ok (.aload_n 0, 1) := by decide +kernel
theorem d_S_nextStart_11 : decode b_S_nextStart 11 = .ok (.iload_n 2, 1) := by decide +kernel
theorem d_S_nextStart_12 : decode b_S_nextStart 12 = .ok (.invokevirtual 21, 3) := by decide +kernel
theorem d_S_nextStart_15 : decode b_S_nextStart 15 = .ok (.istore_n 3, 1) := by decide +kernel
theorem d_S_nextStart_16 : decode b_S_nextStart 16 = .ok (.iload_n 3, 1) := by decide +kernel
theorem d_S_nextStart_17 : decode b_S_nextStart 17 = .ok (.bipush 59, 2) := by decide +kernel
theorem d_S_nextStart_19 : decode b_S_nextStart 19 = .ok (.if_icmp .ne 8, 3) := by decide +kernel
theorem d_S_nextStart_22 : decode b_S_nextStart 22 = .ok (.aload_n 0, 1) := by decide +kernel
theorem d_S_nextStart_23 : decode b_S_nextStart 23 = .ok (.invokevirtual 15, 3) := by decide +kernel
theorem d_S_nextStart_26 : decode b_S_nextStart 26 = .ok (.ireturn, 1) := by decide +kernel
theorem d_S_nextStart_27 : decode b_S_nextStart 27 = .ok (.iload_n 3, 1) := by decide +kernel
theorem d_S_nextStart_28 : decode b_S_nextStart 28 = .ok (.bipush 9, 2) := by decide +kernel
theorem d_S_nextStart_30 : decode b_S_nextStart 30 = .ok (.if_icmp .eq 11, 3) := by decide +kernel
theorem d_S_nextStart_33 : decode b_S_nextStart 33 = .ok (.iload_n 3, 1) := by decide +kernel
theorem d_S_nextStart_34 : decode b_S_nextStart 34 = .ok (.bipush 32, 2) := by decide +kernel
theorem d_S_nextStart_36 : decode b_S_nextStart 36 = .ok (.if_icmp .eq 5, 3) := by decide +kernel
theorem d_S_nextStart_39 : decode b_S_nextStart 39 = .ok (.iload_n 2, 1) := by decide +kernel
theorem d_S_nextStart_40 : decode b_S_nextStart 40 = .ok (.ireturn, 1) := by decide +kernel
theorem d_S_nextStart_41 : decode b_S_nextStart 41 = .ok (.iinc 2 1, 3) := by decide +kernel
theorem d_S_nextStart_44 : decode b_S_nextStart 44 = .ok (.goto (-42), 3) := by decide +kernel
theorem d_S_nextStart_47 : decode b_S_nextStart 47 = .ok (.aload_n 0, 1) := by decide +kernel
theorem d_S_nextStart_48 : decode b_S_nextStart 48 = .ok (.invokevirtual 15, 3) := by decide +kernel
theorem d_S_nextStart_51 : decode b_S_nextStart 51 = .ok (.ireturn, 1) := by decide +kernel
theorem d_S_endOfName_0 : decode b_S_endOfName 0 = .ok (.iload_n 1, 1) := by decide +kernel
theorem d_S_endOfName_1 : decode b_S_endOfName 1 = .ok (.istore_n 2, 1) := by decide +kernel
theorem d_S_endOfName_2 : decode b_S_endOfName 2 = .ok (.iload_n 2, 1) := by decide +kernel
theorem d_S_endOfName_3 : decode b_S_endOfName 3 = .ok (.aload_n 0, 1) := by decide +kernel
theorem d_S_endOfName_4 : decode b_S_endOfName 4 = .ok (.invokevirtual 15, 3) := by decide +kernel
theorem d_S_endOfName_7 : decode b_S_endOfName 7 = .ok (.if_icmp .ge 20, 3) := by decide +kernel
theorem d_S_endOfName_10 : decode b_S_endOfName 10 = .ok (.aload_n 0, 1) := by decide +kernel
theorem d_S_endOfName_11 : decode b_S_endOfName 11 = .ok (.iload_n 2, 1) := by decide +kernel
theorem d_S_endOfName_12 : decode b_S_endOfName 12 = .ok (.invokevirtual 21, 3) := by decide +kernel
theorem d_S_endOfName_15 : decode b_S_endOfName 15 = .ok (.invokestatic 25, 3) := by decide +kernel
theorem d_S_endOfName_18 : decode b_S_endOfName 18 = .ok (.ifCond .eq 9, 3) := by decide +kernel
theorem d_S_endOfName_21 : decode b_S_endOfName 21 = .ok (.iinc 2 1, 3) := by decide +kernel
theorem d_S_endOfName_24 : decode b_S_endOfName 24 = .ok (.goto (-22), 3) := by decide +kernel
theorem d_S_endOfName_27 : decode b_S_endOfName 27 = .ok (.iload_n 2, 1) := by decide +kernel
theorem d_S_endOfName_28 : decode b_S_endOfName 28 = .ok (.ireturn, 1) := by decide +kernel
theorem d_S_widthOfCharacter_0 : decode b_S_widthOfCharacter 0 = .ok (.aload_n 0, 1) := by decide +kernel
theorem d_S_widthOfCharacter_1 : decode b_S_widthOfCharacter 1 = .ok (.iload_n 1, 1) := by decide +kernel
theorem d_S_widthOfCharacter_2 : decode b_S_widthOfCharacter 2 = .ok (.invokevirtual 21, 3) := by decide +kernel
theorem d_S_widthOfCharacter_5 : decode b_S_widthOfCharacter 5 = .ok (.istore_n 3, 1) := by decide +kernel
theorem d_S_widthOfCharacter_6 : decode b_S_widthOfCharacter 6 = .ok (.iload_n 3, 1) := by decide +kernel
theorem d_S_widthOfCharacter_7 : decode b_S_widthOfCharacter 7 = .ok (.invokestatic 28, 3) := by decide +kernel
theorem d_S_widthOfCharacter_10 : decode b_S_widthOfCharacter 10 = .ok (.ifCond .eq 8, 3) := by decide +kernel
theorem d_S_widthOfCharacter_13 : decode b_S_widthOfCharacter 13 = .ok (.iload_n 3, 1) := by decide +kernel
theorem d_S_widthOfCharacter_14 : decode b_S_widthOfCharacter 14 = .ok (.iload_n 2, 1) := by decide +kernel
theorem d_S_widthOfCharacter_15 : decode b_S_widthOfCharacter 15 = .ok (.if_icmp .ne 5, 3) := by decide +kernel
theorem d_S_widthOfCharacter_18 : decode b_S_widthOfCharacter 18 = .ok (.iconst 0, 1) := by decide +kernel
theorem d_S_widthOfCharacter_19 : decode b_S_widthOfCharacter 19 = .ok (.ireturn, 1) := by decide +kernel
theorem d_S_widthOfCharacter_20 : decode b_S_widthOfCharacter 20 = .ok (.iload_n 3, 1) := by decide +kernel
theorem d_S_widthOfCharacter_21 : decode b_S_widthOfCharacter 21 = .ok (.bipush 92, 2) := by decide +kernel
theorem d_S_widthOfCharacter_23 : decode b_S_widthOfCharacter 23 = .ok (.if_icmp .eq 5, 3) := by decide +kernel
theorem d_S_widthOfCharacter_26 : decode b_S_widthOfCharacter 26 = .ok (.iconst 1, 1) := by decide +kernel
theorem d_S_widthOfCharacter_27 : decode b_S_widthOfCharacter 27 = .ok (.ireturn, 1) := by decide +kernel
theorem d_S_widthOfCharacter_28 : decode b_S_widthOfCharacter 28 = .ok (.aload_n 0, 1) := by decide +kernel
theorem d_S_widthOfCharacter_29 : decode b_S_widthOfCharacter 29 = .ok (.iload_n 1, 1) := by decide +kernel
theorem d_S_widthOfCharacter_30 : decode b_S_widthOfCharacter 30 = .ok (.iconst 1, 1) := by decide +kernel
theorem d_S_widthOfCharacter_31 : decode b_S_widthOfCharacter 31 = .ok (.iadd, 1) := by decide +kernel
theorem d_S_widthOfCharacter_32 : decode b_S_widthOfCharacter 32 = .ok (.invokevirtual 21, 3) := by decide +kernel
theorem d_S_widthOfCharacter_35 : decode b_S_widthOfCharacter 35 = .ok (.invokestatic 28, 3) := by decide +kernel
theorem d_S_widthOfCharacter_38 : decode b_S_widthOfCharacter 38 = .ok (.ifCond .eq 7, 3) := by decide +kernel
theorem d_S_widthOfCharacter_41 : decode b_S_widthOfCharacter 41 = .ok (.iconst 2, 1) := by decide +kernel
theorem d_S_widthOfCharacter_42 : decode b_S_widthOfCharacter 42 = .ok (.goto 4, 3) := by decide +kernel
theorem d_S_widthOfCharacter_45 : decode b_S_widthOfCharacter 45 = .ok (.iconst 0, 1) := by decide +kernel
theorem d_S_widthOfCharacter_46 : decode b_S_widthOfCharacter 46 = .ok (.ireturn, 1) := by decide +kernel
theorem d_S_worthOfEscape_0 : decode b_S_worthOfEscape 0 = .ok (.iload_n 0, 1) := by decide +kernel
theorem d_S_worthOfEscape_1 : decode b_S_worthOfEscape 1 = .ok (.lookupswitch 43 #[(48, 41), (110, 35), (116, 38)], 35) := by decide +kernel
theorem d_S_worthOfEscape_36 : decode b_S_worthOfEscape 36 = .ok (.bipush 10, 2) := by decide +kernel
theorem d_S_worthOfEscape_38 : decode b_S_worthOfEscape 38 = .ok (.ireturn, 1) := by decide +kernel
theorem d_S_worthOfEscape_39 : decode b_S_worthOfEscape 39 = .ok (.bipush 9, 2) := by decide +kernel
theorem d_S_worthOfEscape_41 : decode b_S_worthOfEscape 41 = .ok (.ireturn, 1) := by decide +kernel
theorem d_S_worthOfEscape_42 : decode b_S_worthOfEscape 42 = .ok (.iconst 0, 1) := by decide +kernel
theorem d_S_worthOfEscape_43 : decode b_S_worthOfEscape 43 = .ok (.ireturn, 1) := by decide +kernel
theorem d_S_worthOfEscape_44 : decode b_S_worthOfEscape 44 = .ok (.iload_n 0, 1) := by decide +kernel
theorem d_S_worthOfEscape_45 : decode b_S_worthOfEscape 45 = .ok (.ireturn, 1) := by decide +kernel
theorem d_S_endOfCharacters_0 : decode b_S_endOfCharacters 0 = .ok (.iload_n 1, 1) := by decide +kernel
theorem d_S_endOfCharacters_1 : decode b_S_endOfCharacters 1 = .ok (.istore_n 3, 1) := by decide +kernel
theorem d_S_endOfCharacters_2 : decode b_S_endOfCharacters 2 = .ok (.iconst 0, 1) := by decide +kernel
theorem d_S_endOfCharacters_3 : decode b_S_endOfCharacters 3 = .ok (.istore 4, 2) := by decide +kernel
theorem d_S_endOfCharacters_5 : decode b_S_endOfCharacters 5 = .ok (.iload 4, 2) := by decide +kernel
theorem d_S_endOfCharacters_7 : decode b_S_endOfCharacters 7 = .ok (.sipush 1024, 3) := by decide +kernel
theorem d_S_endOfCharacters_10 : decode b_S_endOfCharacters 10 = .ok (.if_icmp .ge 29, 3) := by decide +kernel
theorem d_S_endOfCharacters_13 : decode b_S_endOfCharacters 13 = .ok (.aload_n 0, 1) := by decide +kernel
theorem d_S_endOfCharacters_14 : decode b_S_endOfCharacters 14 = .ok (.iload_n 3, 1) := by decide +kernel
theorem d_S_endOfCharacters_15 : decode b_S_endOfCharacters 15 = .ok (.iload_n 2, 1) := by decide +kernel
theorem d_S_endOfCharacters_16 : decode b_S_endOfCharacters 16 = .ok (.invokestatic 31, 3) := by decide +kernel
theorem d_S_endOfCharacters_19 : decode b_S_endOfCharacters 19 = .ok (.istore 5, 2) := by decide +kernel
theorem d_S_endOfCharacters_21 : decode b_S_endOfCharacters 21 = .ok (.iload 5, 2) := by decide +kernel
theorem d_S_endOfCharacters_23 : decode b_S_endOfCharacters 23 = .ok (.ifCond .ne 5, 3) := by decide +kernel
theorem d_S_endOfCharacters_26 : decode b_S_endOfCharacters 26 = .ok (.iload_n 3, 1) := by decide +kernel
theorem d_S_endOfCharacters_27 : decode b_S_endOfCharacters 27 = .ok (.ireturn, 1) := by decide +kernel
theorem d_S_endOfCharacters_28 : decode b_S_endOfCharacters 28 = .ok (.iload_n 3, 1) := by decide +kernel
theorem d_S_endOfCharacters_29 : decode b_S_endOfCharacters 29 = .ok (.iload 5, 2) := by decide +kernel
theorem d_S_endOfCharacters_31 : decode b_S_endOfCharacters 31 = .ok (.iadd, 1) := by decide +kernel
theorem d_S_endOfCharacters_32 : decode b_S_endOfCharacters 32 = .ok (.istore_n 3, 1) := by decide +kernel
theorem d_S_endOfCharacters_33 : decode b_S_endOfCharacters 33 = .ok (.iinc 4 1, 3) := by decide +kernel
theorem d_S_endOfCharacters_36 : decode b_S_endOfCharacters 36 = .ok (.goto (-31), 3) := by decide +kernel
theorem d_S_endOfCharacters_39 : decode b_S_endOfCharacters 39 = .ok (.iload_n 3, 1) := by decide +kernel
theorem d_S_endOfCharacters_40 : decode b_S_endOfCharacters 40 = .ok (.ireturn, 1) := by decide +kernel
theorem d_S_widthOfSign_0 : decode b_S_widthOfSign 0 = .ok (.aload_n 0, 1) := by decide +kernel
theorem d_S_widthOfSign_1 : decode b_S_widthOfSign 1 = .ok (.iload_n 1, 1) := by decide +kernel
theorem d_S_widthOfSign_2 : decode b_S_widthOfSign 2 = .ok (.invokevirtual 21, 3) := by decide +kernel
theorem d_S_widthOfSign_5 : decode b_S_widthOfSign 5 = .ok (.istore_n 2, 1) := by decide +kernel
theorem d_S_widthOfSign_6 : decode b_S_widthOfSign 6 = .ok (.iload_n 2, 1) := by decide +kernel
theorem d_S_widthOfSign_7 : decode b_S_widthOfSign 7 = .ok (.lookupswitch 172 #[(36, 153), (37, 153), (38, 153), (40, 153), (41, 153), (42, 153), (43, 153), (44, 153), (45, 153), (47, 153), (58, 153), (60, 155), (62, 155), (91, 153), (93, 153), (94, 153), (124, 153), (126, 153)], 153) := by decide +kernel
theorem d_S_widthOfSign_160 : decode b_S_widthOfSign 160 = .ok (.iconst 1, 1) := by decide +kernel
theorem d_S_widthOfSign_161 : decode b_S_widthOfSign 161 = .ok (.ireturn, 1) := by decide +kernel
theorem d_S_widthOfSign_162 : decode b_S_widthOfSign 162 = .ok (.aload_n 0, 1) := by decide +kernel
theorem d_S_widthOfSign_163 : decode b_S_widthOfSign 163 = .ok (.iload_n 1, 1) := by decide +kernel
theorem d_S_widthOfSign_164 : decode b_S_widthOfSign 164 = .ok (.iconst 1, 1) := by decide +kernel
theorem d_S_widthOfSign_165 : decode b_S_widthOfSign 165 = .ok (.iadd, 1) := by decide +kernel
theorem d_S_widthOfSign_166 : decode b_S_widthOfSign 166 = .ok (.invokevirtual 21, 3) := by decide +kernel
theorem d_S_widthOfSign_169 : decode b_S_widthOfSign 169 = .ok (.iload_n 2, 1) := by decide +kernel
theorem d_S_widthOfSign_170 : decode b_S_widthOfSign 170 = .ok (.if_icmp .ne 7, 3) := by decide +kernel
theorem d_S_widthOfSign_173 : decode b_S_widthOfSign 173 = .ok (.iconst 2, 1) := by decide +kernel
theorem d_S_widthOfSign_174 : decode b_S_widthOfSign 174 = .ok (.goto 4, 3) := by decide +kernel
theorem d_S_widthOfSign_177 : decode b_S_widthOfSign 177 = .ok (.iconst 0, 1) := by decide +kernel
theorem d_S_widthOfSign_178 : decode b_S_widthOfSign 178 = .ok (.ireturn, 1) := by decide +kernel
theorem d_S_widthOfSign_179 : decode b_S_widthOfSign 179 = .ok (.iconst 0, 1) := by decide +kernel
theorem d_S_widthOfSign_180 : decode b_S_widthOfSign 180 = .ok (.ireturn, 1) := by decide +kernel
theorem d_S_baseOfNumber_0 : decode b_S_baseOfNumber 0 = .ok (.aload_n 0, 1) := by decide +kernel
theorem d_S_baseOfNumber_1 : decode b_S_baseOfNumber 1 = .ok (.iload_n 1, 1) := by decide +kernel
theorem d_S_baseOfNumber_2 : decode b_S_baseOfNumber 2 = .ok (.invokevirtual 21, 3) := by decide +kernel
theorem d_S_baseOfNumber_5 : decode b_S_baseOfNumber 5 = .ok (.bipush 48, 2) := by decide +kernel
theorem d_S_baseOfNumber_7 : decode b_S_baseOfNumber 7 = .ok (.if_icmp .eq 6, 3) := by decide +kernel
theorem d_S_baseOfNumber_10 : decode b_S_baseOfNumber 10 = .ok (.bipush 10, 2) := by decide +kernel
theorem d_S_baseOfNumber_12 : decode b_S_baseOfNumber 12 = .ok (.ireturn, 1) := by decide +kernel
theorem d_S_baseOfNumber_13 : decode b_S_baseOfNumber 13 = .ok (.aload_n 0, 1) := by decide +kernel
theorem d_S_baseOfNumber_14 : decode b_S_baseOfNumber 14 = .ok (.iload_n 1, 1) := by decide +kernel
theorem d_S_baseOfNumber_15 : decode b_S_baseOfNumber 15 = .ok (.iconst 1, 1) := by decide +kernel
theorem d_S_baseOfNumber_16 : decode b_S_baseOfNumber 16 = .ok (.iadd, 1) := by decide +kernel
theorem d_S_baseOfNumber_17 : decode b_S_baseOfNumber 17 = .ok (.invokevirtual 21, 3) := by decide +kernel
theorem d_S_baseOfNumber_20 : decode b_S_baseOfNumber 20 = .ok (.istore_n 2, 1) := by decide +kernel
theorem d_S_baseOfNumber_21 : decode b_S_baseOfNumber 21 = .ok (.iload_n 2, 1) := by decide +kernel
theorem d_S_baseOfNumber_22 : decode b_S_baseOfNumber 22 = .ok (.bipush 120, 2) := by decide +kernel
theorem d_S_baseOfNumber_24 : decode b_S_baseOfNumber 24 = .ok (.if_icmp .ne 6, 3) := by decide +kernel
theorem d_S_baseOfNumber_27 : decode b_S_baseOfNumber 27 = .ok (.bipush 16, 2) := by decide +kernel
theorem d_S_baseOfNumber_29 : decode b_S_baseOfNumber 29 = .ok (.ireturn, 1) := by decide +kernel
theorem d_S_baseOfNumber_30 : decode b_S_baseOfNumber 30 = .ok (.iload_n 2, 1) := by decide +kernel
theorem d_S_baseOfNumber_31 : decode b_S_baseOfNumber 31 = .ok (.bipush 98, 2) := by decide +kernel
theorem d_S_baseOfNumber_33 : decode b_S_baseOfNumber 33 = .ok (.if_icmp .ne 7, 3) := by decide +kernel
theorem d_S_baseOfNumber_36 : decode b_S_baseOfNumber 36 = .ok (.iconst 2, 1) := by decide +kernel
theorem d_S_baseOfNumber_37 : decode b_S_baseOfNumber 37 = .ok (.goto 5, 3) := by decide +kernel
theorem d_S_baseOfNumber_40 : decode b_S_baseOfNumber 40 = .ok (.bipush 10, 2) := by decide +kernel
theorem d_S_baseOfNumber_42 : decode b_S_baseOfNumber 42 = .ok (.ireturn, 1) := by decide +kernel
theorem d_S_digit_0 : decode b_S_digit 0 = .ok (.iconst (-1), 1) := by decide +kernel
theorem d_S_digit_1 : decode b_S_digit 1 = .ok (.istore_n 2, 1) := by decide +kernel
theorem d_S_digit_2 : decode b_S_digit 2 = .ok (.iload_n 0, 1) := by decide +kernel
theorem d_S_digit_3 : decode b_S_digit 3 = .ok (.invokestatic 9, 3) := by decide +kernel
theorem d_S_digit_6 : decode b_S_digit 6 = .ok (.ifCond .eq 11, 3) := by decide +kernel
theorem d_S_digit_9 : decode b_S_digit 9 = .ok (.iload_n 0, 1) := by decide +kernel
theorem d_S_digit_10 : decode b_S_digit 10 = .ok (.bipush 48, 2) := by decide +kernel
theorem d_S_digit_12 : decode b_S_digit 12 = .ok (.isub, 1) := by decide +kernel
theorem d_S_digit_13 : decode b_S_digit 13 = .ok (.istore_n 2, 1) := by decide +kernel
theorem d_S_digit_14 : decode b_S_digit 14 = .ok (.goto 46, 3) := by decide +kernel
theorem d_S_digit_17 : decode b_S_digit 17 = .ok (.iload_n 0, 1) := by decide +kernel
theorem d_S_digit_18 : decode b_S_digit 18 = .ok (.bipush 97, 2) := by decide +kernel
theorem d_S_digit_20 : decode b_S_digit 20 = .ok (.if_icmp .lt 20, 3) := by decide +kernel
theorem d_S_digit_23 : decode b_S_digit 23 = .ok (.iload_n 0, 1) := by decide +kernel
theorem d_S_digit_24 : decode b_S_digit 24 = .ok (.bipush 102, 2) := by decide +kernel
theorem d_S_digit_26 : decode b_S_digit 26 = .ok (.if_icmp .gt 14, 3) := by decide +kernel
theorem d_S_digit_29 : decode b_S_digit 29 = .ok (.iload_n 0, 1) := by decide +kernel
theorem d_S_digit_30 : decode b_S_digit 30 = .ok (.bipush 97, 2) := by decide +kernel
theorem d_S_digit_32 : decode b_S_digit 32 = .ok (.isub, 1) := by decide +kernel
theorem d_S_digit_33 : decode b_S_digit 33 = .ok (.bipush 10, 2) := by decide +kernel
theorem d_S_digit_35 : decode b_S_digit 35 = .ok (.iadd, 1) := by decide +kernel
theorem d_S_digit_36 : decode b_S_digit 36 = .ok (.istore_n 2, 1) := by decide +kernel
theorem d_S_digit_37 : decode b_S_digit 37 = .ok (.goto 23, 3) := by decide +kernel
theorem d_S_digit_40 : decode b_S_digit 40 = .ok (.iload_n 0, 1) := by decide +kernel
theorem d_S_digit_41 : decode b_S_digit 41 = .ok (.bipush 65, 2) := by decide +kernel
theorem d_S_digit_43 : decode b_S_digit 43 = .ok (.if_icmp .lt 17, 3) := by decide +kernel
theorem d_S_digit_46 : decode b_S_digit 46 = .ok (.iload_n 0, 1) := by decide +kernel
theorem d_S_digit_47 : decode b_S_digit 47 = .ok (.bipush 70, 2) := by decide +kernel
theorem d_S_digit_49 : decode b_S_digit 49 = .ok (.if_icmp .gt 11, 3) := by decide +kernel
theorem d_S_digit_52 : decode b_S_digit 52 = .ok (.iload_n 0, 1) := by decide +kernel
theorem d_S_digit_53 : decode b_S_digit 53 = .ok (.bipush 65, 2) := by decide +kernel
theorem d_S_digit_55 : decode b_S_digit 55 = .ok (.isub, 1) := by decide +kernel
theorem d_S_digit_56 : decode b_S_digit 56 = .ok (.bipush 10, 2) := by decide +kernel
theorem d_S_digit_58 : decode b_S_digit 58 = .ok (.iadd, 1) := by decide +kernel
theorem d_S_digit_59 : decode b_S_digit 59 = .ok (.istore_n 2, 1) := by decide +kernel
theorem d_S_digit_60 : decode b_S_digit 60 = .ok (.iload_n 2, 1) := by decide +kernel
theorem d_S_digit_61 : decode b_S_digit 61 = .ok (.iload_n 1, 1) := by decide +kernel
theorem d_S_digit_62 : decode b_S_digit 62 = .ok (.if_icmp .ge 7, 3) := by decide +kernel
theorem d_S_digit_65 : decode b_S_digit 65 = .ok (.iload_n 2, 1) := by decide +kernel
theorem d_S_digit_66 : decode b_S_digit 66 = .ok (.goto 4, 3) := by decide +kernel
theorem d_S_digit_69 : decode b_S_digit 69 = .ok (.iconst (-1), 1) := by decide +kernel
theorem d_S_digit_70 : decode b_S_digit 70 = .ok (.ireturn, 1) := by decide +kernel
theorem d_S_hasRoom_0 : decode b_S_hasRoom 0 = .ok (.iload_n 2, 1) := by decide +kernel
theorem d_S_hasRoom_1 : decode b_S_hasRoom 1 = .ok (.bipush 16, 2) := by decide +kernel
theorem d_S_hasRoom_3 : decode b_S_hasRoom 3 = .ok (.if_icmp .ne 18, 3) := by decide +kernel
theorem d_S_hasRoom_6 : decode b_S_hasRoom 6 = .ok (.lload_n 0, 1) := by decide +kernel
theorem d_S_hasRoom_7 : decode b_S_hasRoom 7 = .ok (.bipush 60, 2) := by decide +kernel
theorem d_S_hasRoom_9 : decode b_S_hasRoom 9 = .ok (.lushr, 1) := by decide +kernel
theorem d_S_hasRoom_10 : decode b_S_hasRoom 10 = .ok (.lconst 0, 1) := by decide +kernel
theorem d_S_hasRoom_11 : decode b_S_hasRoom 11 = .ok (.lcmp, 1) := by decide +kernel
theorem d_S_hasRoom_12 : decode b_S_hasRoom 12 = .ok (.ifCond .ne 7, 3) := by decide +kernel
theorem d_S_hasRoom_15 : decode b_S_hasRoom 15 = .ok (.iconst 1, 1) := by decide +kernel
theorem d_S_hasRoom_16 : decode b_S_hasRoom 16 = .ok (.goto 4, 3) := by decide +kernel
theorem d_S_hasRoom_19 : decode b_S_hasRoom 19 = .ok (.iconst 0, 1) := by decide +kernel
theorem d_S_hasRoom_20 : decode b_S_hasRoom 20 = .ok (.ireturn, 1) := by decide +kernel
theorem d_S_hasRoom_21 : decode b_S_hasRoom 21 = .ok (.iload_n 2, 1) := by decide +kernel
theorem d_S_hasRoom_22 : decode b_S_hasRoom 22 = .ok (.iconst 2, 1) := by decide +kernel
theorem d_S_hasRoom_23 : decode b_S_hasRoom 23 = .ok (.if_icmp .ne 18, 3) := by decide +kernel
theorem d_S_hasRoom_26 : decode b_S_hasRoom 26 = .ok (.lload_n 0, 1) := by decide +kernel
theorem d_S_hasRoom_27 : decode b_S_hasRoom 27 = .ok (.bipush 63, 2) := by decide +kernel
theorem d_S_hasRoom_29 : decode b_S_hasRoom 29 = .ok (.lushr, 1) := by decide +kernel
theorem d_S_hasRoom_30 : decode b_S_hasRoom 30 = .ok (.lconst 0, 1) := by decide +kernel
theorem d_S_hasRoom_31 : decode b_S_hasRoom 31 = .ok (.lcmp, 1) := by decide +kernel
theorem d_S_hasRoom_32 : decode b_S_hasRoom 32 = .ok (.ifCond .ne 7, 3) := by decide +kernel
theorem d_S_hasRoom_35 : decode b_S_hasRoom 35 = .ok (.iconst 1, 1) := by decide +kernel
theorem d_S_hasRoom_36 : decode b_S_hasRoom 36 = .ok (.goto 4, 3) := by decide +kernel
theorem d_S_hasRoom_39 : decode b_S_hasRoom 39 = .ok (.iconst 0, 1) := by decide +kernel
theorem d_S_hasRoom_40 : decode b_S_hasRoom 40 = .ok (.ireturn, 1) := by decide +kernel
theorem d_S_hasRoom_41 : decode b_S_hasRoom 41 = .ok (.ldc2_w 35, 3) := by decide +kernel
theorem d_S_hasRoom_44 : decode b_S_hasRoom 44 = .ok (.lstore 4, 2) := by decide +kernel
theorem d_S_hasRoom_46 : decode b_S_hasRoom 46 = .ok (.lload_n 0, 1) := by decide +kernel
theorem d_S_hasRoom_47 : decode b_S_hasRoom 47 = .ok (.lconst 0, 1) := by decide +kernel
theorem d_S_hasRoom_48 : decode b_S_hasRoom 48 = .ok (.lcmp, 1) := by decide +kernel
theorem d_S_hasRoom_49 : decode b_S_hasRoom 49 = .ok (.ifCond .lt 26, 3) := by decide +kernel
theorem d_S_hasRoom_52 : decode b_S_hasRoom 52 = .ok (.lload_n 0, 1) := by decide +kernel
theorem d_S_hasRoom_53 : decode b_S_hasRoom 53 = .ok (.lload 4, 2) := by decide +kernel
theorem d_S_hasRoom_55 : decode b_S_hasRoom 55 = .ok (.lcmp, 1) := by decide +kernel
theorem d_S_hasRoom_56 : decode b_S_hasRoom 56 = .ok (.ifCond .lt 15, 3) := by decide +kernel
theorem d_S_hasRoom_59 : decode b_S_hasRoom 59 = .ok (.lload_n 0, 1) := by decide +kernel
theorem d_S_hasRoom_60 : decode b_S_hasRoom 60 = .ok (.lload 4, 2) := by decide +kernel
theorem d_S_hasRoom_62 : decode b_S_hasRoom 62 = .ok (.lcmp, 1) := by decide +kernel
theorem d_S_hasRoom_63 : decode b_S_hasRoom 63 = .ok (.ifCond .ne 12, 3) := by decide +kernel
theorem d_S_hasRoom_66 : decode b_S_hasRoom 66 = .ok (.iload_n 3, 1) := by decide +kernel
theorem d_S_hasRoom_67 : decode b_S_hasRoom 67 = .ok (.iconst 5, 1) := by decide +kernel
theorem d_S_hasRoom_68 : decode b_S_hasRoom 68 = .ok (.if_icmp .gt 7, 3) := by decide +kernel
theorem d_S_hasRoom_71 : decode b_S_hasRoom 71 = .ok (.iconst 1, 1) := by decide +kernel
theorem d_S_hasRoom_72 : decode b_S_hasRoom 72 = .ok (.goto 4, 3) := by decide +kernel
theorem d_S_hasRoom_75 : decode b_S_hasRoom 75 = .ok (.iconst 0, 1) := by decide +kernel
theorem d_S_hasRoom_76 : decode b_S_hasRoom 76 = .ok (.ireturn, 1) := by decide +kernel
theorem wb_7 : Cond.methodLink R_S 9 y_S_isDigit ∈ WB := wbm (i := 261) (by decide +kernel) rfl
theorem wb_8 : Cond.code y_S_isDigit b_S_isDigit 1 (some .boolean) ∈ WB := wbm (i := 247) (by decide +kernel) rfl
theorem wb_9 : Cond.static y_S_isDigit ∈ WB := wbm (i := 246) (by decide +kernel) rfl
theorem wb_10 : Cond.initialized R_S ∈ WB := wbm (i := 57) (by decide +kernel) rfl
theorem wb_11 : Cond.methodLink R_S 15 y_L_size ∈ WB := wbm (i := 231) (by decide +kernel) rfl
theorem wb_12 : Cond.code y_L_size b_L_size 1 (some .int) ∈ WB := wbm (i := 234) (by decide +kernel) rfl
theorem wb_13 : Cond.instanceMethod y_L_size ∈ WB := wbm (i := 232) (by decide +kernel) rfl
theorem wb_14 : Cond.selects R_L y_L_size y_L_size ∈ WB := wbm (i := 233) (by decide +kernel) rfl
theorem wb_15 : Cond.methodLink R_S 21 y_L_at ∈ WB := wbm (i := 235) (by decide +kernel) rfl
theorem wb_16 : Cond.methodLink R_S 25 y_S_isOfNames ∈ WB := wbm (i := 258) (by decide +kernel) rfl
theorem wb_17 : Cond.code y_S_isOfNames b_S_isOfNames 1 (some .boolean) ∈ WB := wbm (i := 260) (by decide +kernel) rfl
theorem wb_18 : Cond.static y_S_isOfNames ∈ WB := wbm (i := 259) (by decide +kernel) rfl
theorem wb_19 : Cond.methodLink R_S 28 y_S_isPrintable ∈ WB := wbm (i := 285) (by decide +kernel) rfl
theorem wb_20 : Cond.code y_S_isPrintable b_S_isPrintable 1 (some .boolean) ∈ WB := wbm (i := 287) (by decide +kernel) rfl
theorem wb_21 : Cond.static y_S_isPrintable ∈ WB := wbm (i := 286) (by decide +kernel) rfl
theorem wb_22 : Cond.methodLink R_S 31 y_S_widthOfCharacter ∈ WB := wbm (i := 298) (by decide +kernel) rfl
theorem wb_23 : Cond.code y_S_widthOfCharacter b_S_widthOfCharacter 4 (some .int) ∈ WB := wbm (i := 284) (by decide +kernel) rfl
theorem wb_24 : Cond.static y_S_widthOfCharacter ∈ WB := wbm (i := 283) (by decide +kernel) rfl
theorem wb_25 : Cond.constantLong R_S 35 (1844674407370955161 : Int64) ∈ WB := wbm (i := 268) (by decide +kernel) rfl
def f_S_isDigit (p0 : Int32) : Option (Int32) := if p0 < (48 : Int32) then some ((0 : Int32)) else if (57 : Int32) < p0 then some ((0 : Int32)) else some ((1 : Int32))
set_option maxHeartbeats 4000000 in
set_option maxRecDepth 100000 in
theorem c_S_isDigit (l : Launch) (dC : Nat → ClassId) (dI : Nat → Nat → Nat) (sz : Nat) (p0 : Int32) (o : Int32) (hf : f_S_isDigit p0 = some o) : Met l y_S_isDigit (w_S_isDigit) ({ frames := 0, cells := 0, slots := 0, locals := 0 }) (va_Pc [.int p0] (fun U => U.heap.size = sz ∧ va_P (dC, dI) vwCl [] U.heap ∧ va_K (dC, dI) vwCl [] U ∧ va_D (fun _ => True) [] ∧ NW U)) (va_Qi (fun (r : Int32) (_ : Unit) => r = o ∧ narrow .boolean (.int r) = .int r) (fun _ t => va_P (dC, dI) vwCl [] t.heap ∧ va_K (dC, dI) vwCl [] t ∧ va_D (va_A [] sz) []) (va_A [] sz)) 0 0 (va_A [] sz) := by
  refine Met.ofW (cc := b_S_isDigit) (maxL := 1) (ret := (some .boolean)) (by decide) rfl ?_
  intro p e s m args below meth c s₁ B hml hv
  obtain ⟨rfl, hsz, hP, hK, hD0, hN⟩ := hv
  have hx := B.exec
  have hb := B.bytes
  have hr := B.returns
  have hts : ∀ w ∈ WB, w.before _ s = true := fun w h => atoms_spec (ws := w_S_isDigit) B.pre w (List.mem_cons_of_mem _ h)
  have hown : s.vm.findClass R_S = some m.cls := findClass_of_methodNamed B.named
  have hlocks := B.notSynchronized
  subst hsz
  have hD := hD0.self (sz := s.heap.size)
  generalize hAe : va_A [] s.heap.size = A at hD ⊢
  have hA : ∀ q : Nat, s.heap.size ≤ q → A q := fun q h => by rw [← hAe]; exact Or.inr h
  have hS : va_S A s.heap s.heap [] := va_S.rf
  have hP : va_P (dC, dI) vwCl [] s.heap := hP
  have hl := lv_entry [.int p0] (n := 1) (Nat.le_of_ble_eq_true rfl)
  rw [lg_entry_eq]
  generalize (lg_sl [.int p0] ++ List.replicate (1 - (lg_sl [.int p0]).length) Slot.unset).toArray = ls at hl ⊢
  have hl : lv_has ls 1 [(0, .int p0)] := hl
  rw [f_S_isDigit] at hf
  refine lv_iload_n hx hb d_S_isDigit_0 rfl (lv_at hl 0 rfl) ?_
  refine lv_bipush (v := (48 : Int32)) hx hb d_S_isDigit_1 (by decide) ?_
  refine lv_icmp_lt (tgt := 16) hx hb d_S_isDigit_3 (by decide) (fun c_1 => ?_) (fun c_1 => ?_)
  · rw [if_pos c_1] at hf
    refine lv_iconst (v := (0 : Int32)) hx hb d_S_isDigit_16 (by decide) ?_
    have ho := Option.some.inj hf
    subst o
    have hP9 := hP.sub (ws' := []) [] rfl
    have hD9 := hD.sub (ws' := []) [] (by decide) rfl
    exact W.zret (v := (0 : Int32)) (ty := .boolean) hx hb hr rfl (fun t ht hW => ⟨⟨(0 : Int32), (), rfl, ⟨rfl, rfl⟩, by rw [ht]; exact hP9, va_K.moved hW.alike hK, hD9⟩, hS.F ht⟩) hS.2.2 d_S_isDigit_17
  · rw [if_neg c_1] at hf
    refine lv_iload_n hx hb d_S_isDigit_6 rfl (lv_at hl 0 rfl) ?_
    refine lv_bipush (v := (57 : Int32)) hx hb d_S_isDigit_7 (by decide) ?_
    refine lv_icmp_gt (tgt := 16) hx hb d_S_isDigit_9 (by decide) (fun c_2 => ?_) (fun c_2 => ?_)
    · rw [if_pos c_2] at hf
      refine lv_iconst (v := (0 : Int32)) hx hb d_S_isDigit_16 (by decide) ?_
      have ho := Option.some.inj hf
      subst o
      have hP9 := hP.sub (ws' := []) [] rfl
      have hD9 := hD.sub (ws' := []) [] (by decide) rfl
      exact W.zret (v := (0 : Int32)) (ty := .boolean) hx hb hr rfl (fun t ht hW => ⟨⟨(0 : Int32), (), rfl, ⟨rfl, rfl⟩, by rw [ht]; exact hP9, va_K.moved hW.alike hK, hD9⟩, hS.F ht⟩) hS.2.2 d_S_isDigit_17
    · rw [if_neg c_2] at hf
      refine lv_iconst (v := (1 : Int32)) hx hb d_S_isDigit_12 (by decide) ?_
      refine lv_goto (tgt := 17) hx hb d_S_isDigit_13 (by decide) ?_
      have ho := Option.some.inj hf
      subst o
      have hP9 := hP.sub (ws' := []) [] rfl
      have hD9 := hD.sub (ws' := []) [] (by decide) rfl
      exact W.zret (v := (1 : Int32)) (ty := .boolean) hx hb hr rfl (fun t ht hW => ⟨⟨(1 : Int32), (), rfl, ⟨rfl, rfl⟩, by rw [ht]; exact hP9, va_K.moved hW.alike hK, hD9⟩, hS.F ht⟩) hS.2.2 d_S_isDigit_17

def f_S_isOfNames (p0 : Int32) : Option (Int32) := if p0 < (97 : Int32) then if p0 < (65 : Int32) then (f_S_isDigit p0).bind (fun o_3 => if o_3 = (0 : Int32) then if p0 = (95 : Int32) then some ((1 : Int32)) else if p0 = (46 : Int32) then some ((1 : Int32)) else some ((0 : Int32)) else some ((1 : Int32))) else if p0 ≤ (90 : Int32) then some ((1 : Int32)) else (f_S_isDigit p0).bind (fun o_8 => if o_8 = (0 : Int32) then if p0 = (95 : Int32) then some ((1 : Int32)) else if p0 = (46 : Int32) then some ((1 : Int32)) else some ((0 : Int32)) else some ((1 : Int32))) else if p0 ≤ (122 : Int32) then some ((1 : Int32)) else if p0 < (65 : Int32) then (f_S_isDigit p0).bind (fun o_14 => if o_14 = (0 : Int32) then if p0 = (95 : Int32) then some ((1 : Int32)) else if p0 = (46 : Int32) then some ((1 : Int32)) else some ((0 : Int32)) else some ((1 : Int32))) else if p0 ≤ (90 : Int32) then some ((1 : Int32)) else (f_S_isDigit p0).bind (fun o_19 => if o_19 = (0 : Int32) then if p0 = (95 : Int32) then some ((1 : Int32)) else if p0 = (46 : Int32) then some ((1 : Int32)) else some ((0 : Int32)) else some ((1 : Int32)))
set_option maxHeartbeats 4000000 in
set_option maxRecDepth 100000 in
theorem c_S_isOfNames (l : Launch) (dC : Nat → ClassId) (dI : Nat → Nat → Nat) (sz : Nat) (p0 : Int32) (o : Int32) (hf : f_S_isOfNames p0 = some o) : Met l y_S_isOfNames (w_S_isOfNames) ({ frames := 1, cells := 0, slots := 0, locals := 20 }) (va_Pc [.int p0] (fun U => U.heap.size = sz ∧ va_P (dC, dI) vwCl [] U.heap ∧ va_K (dC, dI) vwCl [] U ∧ va_D (fun _ => True) [] ∧ NW U)) (va_Qi (fun (r : Int32) (_ : Unit) => r = o ∧ narrow .boolean (.int r) = .int r) (fun _ t => va_P (dC, dI) vwCl [] t.heap ∧ va_K (dC, dI) vwCl [] t ∧ va_D (va_A [] sz) []) (va_A [] sz)) 0 0 (va_A [] sz) := by
  refine Met.ofW (cc := b_S_isOfNames) (maxL := 1) (ret := (some .boolean)) (by decide) rfl ?_
  intro p e s m args below meth c s₁ B hml hv
  obtain ⟨rfl, hsz, hP, hK, hD0, hN⟩ := hv
  have hx := B.exec
  have hb := B.bytes
  have hr := B.returns
  have hts : ∀ w ∈ WB, w.before _ s = true := fun w h => atoms_spec (ws := w_S_isOfNames) B.pre w (List.mem_cons_of_mem _ h)
  have hown : s.vm.findClass R_S = some m.cls := findClass_of_methodNamed B.named
  have hlocks := B.notSynchronized
  subst hsz
  have hD := hD0.self (sz := s.heap.size)
  generalize hAe : va_A [] s.heap.size = A at hD ⊢
  have hA : ∀ q : Nat, s.heap.size ≤ q → A q := fun q h => by rw [← hAe]; exact Or.inr h
  have hS : va_S A s.heap s.heap [] := va_S.rf
  have hP : va_P (dC, dI) vwCl [] s.heap := hP
  have hl := lv_entry [.int p0] (n := 1) (Nat.le_of_ble_eq_true rfl)
  rw [lg_entry_eq]
  generalize (lg_sl [.int p0] ++ List.replicate (1 - (lg_sl [.int p0]).length) Slot.unset).toArray = ls at hl ⊢
  have hl : lv_has ls 1 [(0, .int p0)] := hl
  rw [f_S_isOfNames] at hf
  refine lv_iload_n hx hb d_S_isOfNames_0 rfl (lv_at hl 0 rfl) ?_
  refine lv_bipush (v := (97 : Int32)) hx hb d_S_isOfNames_1 (by decide) ?_
  refine lv_icmp_lt (tgt := 12) hx hb d_S_isOfNames_3 (by decide) (fun c_1 => ?_) (fun c_1 => ?_)
  · rw [if_pos c_1] at hf
    refine lv_iload_n hx hb d_S_isOfNames_12 rfl (lv_at hl 0 rfl) ?_
    refine lv_bipush (v := (65 : Int32)) hx hb d_S_isOfNames_13 (by decide) ?_
    refine lv_icmp_lt (tgt := 24) hx hb d_S_isOfNames_15 (by decide) (fun c_2 => ?_) (fun c_2 => ?_)
    · rw [if_pos c_2] at hf
      refine lv_iload_n hx hb d_S_isOfNames_24 rfl (lv_at hl 0 rfl) ?_
      obtain ⟨o_3, hM_3, hf⟩ := bd_some hf
      refine cr_i (va_runS (As := [.int p0]) (rest := []) ⟨hx, hb, hml, hown, hts⟩ (c_S_isDigit l dC dI   s.heap.size  p0 o_3 hM_3) (va_cwS 1 hts (gwS wb_7 wb_9 wb_10 wb_8) rfl rfl rfl (by decide +kernel) ⟨Nat.le_of_ble_eq_true rfl, Nat.le_of_ble_eq_true rfl⟩) (pr_S (hP.sub [] rfl) (hD.sub [] (by decide) rfl) hK hN [] rfl) rfl rfl hl.1 rfl (lv_room (Nat.le_of_ble_eq_true rfl)) d_S_isOfNames_25 ⟨Nat.zero_le _, Nat.zero_le _⟩) hP hD hS hA (in_of [] rfl) (fun r_3 H locs hw hP hS => ?_)
      obtain ⟨hw, hz_3⟩ := hw
      subst r_3
      refine lv_if_ne (tgt := 43) hx hb d_S_isOfNames_28 (by decide) (fun c_4 => ?_) (fun c_4 => ?_)
      · rw [if_neg c_4] at hf
        refine lv_iconst (v := (1 : Int32)) hx hb d_S_isOfNames_43 (by decide) ?_
        refine lv_goto (tgt := 48) hx hb d_S_isOfNames_44 (by decide) ?_
        have ho := Option.some.inj hf
        subst o
        have hP9 := hP.sub (ws' := []) [] rfl
        have hD9 := hD.sub (ws' := []) [] (by decide) rfl
        exact W.zret (v := (1 : Int32)) (ty := .boolean) hx hb hr rfl (fun t ht hW => ⟨⟨(1 : Int32), (), rfl, ⟨rfl, rfl⟩, by rw [ht]; exact hP9, va_K.moved hW.alike hK, hD9⟩, hS.F ht⟩) hS.2.2 d_S_isOfNames_48
      · rw [if_pos c_4] at hf
        refine lv_iload_n hx hb d_S_isOfNames_31 rfl (lv_at hl 0 rfl) ?_
        refine lv_bipush (v := (95 : Int32)) hx hb d_S_isOfNames_32 (by decide) ?_
        refine lv_icmp_eq (tgt := 43) hx hb d_S_isOfNames_34 (by decide) (fun c_5 => ?_) (fun c_5 => ?_)
        · rw [if_pos c_5] at hf
          refine lv_iconst (v := (1 : Int32)) hx hb d_S_isOfNames_43 (by decide) ?_
          refine lv_goto (tgt := 48) hx hb d_S_isOfNames_44 (by decide) ?_
          have ho := Option.some.inj hf
          subst o
          have hP9 := hP.sub (ws' := []) [] rfl
          have hD9 := hD.sub (ws' := []) [] (by decide) rfl
          exact W.zret (v := (1 : Int32)) (ty := .boolean) hx hb hr rfl (fun t ht hW => ⟨⟨(1 : Int32), (), rfl, ⟨rfl, rfl⟩, by rw [ht]; exact hP9, va_K.moved hW.alike hK, hD9⟩, hS.F ht⟩) hS.2.2 d_S_isOfNames_48
        · rw [if_neg c_5] at hf
          refine lv_iload_n hx hb d_S_isOfNames_37 rfl (lv_at hl 0 rfl) ?_
          refine lv_bipush (v := (46 : Int32)) hx hb d_S_isOfNames_38 (by decide) ?_
          refine lv_icmp_ne (tgt := 47) hx hb d_S_isOfNames_40 (by decide) (fun c_6 => ?_) (fun c_6 => ?_)
          · rw [if_neg c_6] at hf
            refine lv_iconst (v := (0 : Int32)) hx hb d_S_isOfNames_47 (by decide) ?_
            have ho := Option.some.inj hf
            subst o
            have hP9 := hP.sub (ws' := []) [] rfl
            have hD9 := hD.sub (ws' := []) [] (by decide) rfl
            exact W.zret (v := (0 : Int32)) (ty := .boolean) hx hb hr rfl (fun t ht hW => ⟨⟨(0 : Int32), (), rfl, ⟨rfl, rfl⟩, by rw [ht]; exact hP9, va_K.moved hW.alike hK, hD9⟩, hS.F ht⟩) hS.2.2 d_S_isOfNames_48
          · rw [if_pos c_6] at hf
            refine lv_iconst (v := (1 : Int32)) hx hb d_S_isOfNames_43 (by decide) ?_
            refine lv_goto (tgt := 48) hx hb d_S_isOfNames_44 (by decide) ?_
            have ho := Option.some.inj hf
            subst o
            have hP9 := hP.sub (ws' := []) [] rfl
            have hD9 := hD.sub (ws' := []) [] (by decide) rfl
            exact W.zret (v := (1 : Int32)) (ty := .boolean) hx hb hr rfl (fun t ht hW => ⟨⟨(1 : Int32), (), rfl, ⟨rfl, rfl⟩, by rw [ht]; exact hP9, va_K.moved hW.alike hK, hD9⟩, hS.F ht⟩) hS.2.2 d_S_isOfNames_48
    · rw [if_neg c_2] at hf
      refine lv_iload_n hx hb d_S_isOfNames_18 rfl (lv_at hl 0 rfl) ?_
      refine lv_bipush (v := (90 : Int32)) hx hb d_S_isOfNames_19 (by decide) ?_
      refine lv_icmp_le (tgt := 43) hx hb d_S_isOfNames_21 (by decide) (fun c_7 => ?_) (fun c_7 => ?_)
      · rw [if_pos c_7] at hf
        refine lv_iconst (v := (1 : Int32)) hx hb d_S_isOfNames_43 (by decide) ?_
        refine lv_goto (tgt := 48) hx hb d_S_isOfNames_44 (by decide) ?_
        have ho := Option.some.inj hf
        subst o
        have hP9 := hP.sub (ws' := []) [] rfl
        have hD9 := hD.sub (ws' := []) [] (by decide) rfl
        exact W.zret (v := (1 : Int32)) (ty := .boolean) hx hb hr rfl (fun t ht hW => ⟨⟨(1 : Int32), (), rfl, ⟨rfl, rfl⟩, by rw [ht]; exact hP9, va_K.moved hW.alike hK, hD9⟩, hS.F ht⟩) hS.2.2 d_S_isOfNames_48
      · rw [if_neg c_7] at hf
        refine lv_iload_n hx hb d_S_isOfNames_24 rfl (lv_at hl 0 rfl) ?_
        obtain ⟨o_8, hM_8, hf⟩ := bd_some hf
        refine cr_i (va_runS (As := [.int p0]) (rest := []) ⟨hx, hb, hml, hown, hts⟩ (c_S_isDigit l dC dI   s.heap.size  p0 o_8 hM_8) (va_cwS 1 hts (gwS wb_7 wb_9 wb_10 wb_8) rfl rfl rfl (by decide +kernel) ⟨Nat.le_of_ble_eq_true rfl, Nat.le_of_ble_eq_true rfl⟩) (pr_S (hP.sub [] rfl) (hD.sub [] (by decide) rfl) hK hN [] rfl) rfl rfl hl.1 rfl (lv_room (Nat.le_of_ble_eq_true rfl)) d_S_isOfNames_25 ⟨Nat.zero_le _, Nat.zero_le _⟩) hP hD hS hA (in_of [] rfl) (fun r_8 H locs hw hP hS => ?_)
        obtain ⟨hw, hz_8⟩ := hw
        subst r_8
        refine lv_if_ne (tgt := 43) hx hb d_S_isOfNames_28 (by decide) (fun c_9 => ?_) (fun c_9 => ?_)
        · rw [if_neg c_9] at hf
          refine lv_iconst (v := (1 : Int32)) hx hb d_S_isOfNames_43 (by decide) ?_
          refine lv_goto (tgt := 48) hx hb d_S_isOfNames_44 (by decide) ?_
          have ho := Option.some.inj hf
          subst o
          have hP9 := hP.sub (ws' := []) [] rfl
          have hD9 := hD.sub (ws' := []) [] (by decide) rfl
          exact W.zret (v := (1 : Int32)) (ty := .boolean) hx hb hr rfl (fun t ht hW => ⟨⟨(1 : Int32), (), rfl, ⟨rfl, rfl⟩, by rw [ht]; exact hP9, va_K.moved hW.alike hK, hD9⟩, hS.F ht⟩) hS.2.2 d_S_isOfNames_48
        · rw [if_pos c_9] at hf
          refine lv_iload_n hx hb d_S_isOfNames_31 rfl (lv_at hl 0 rfl) ?_
          refine lv_bipush (v := (95 : Int32)) hx hb d_S_isOfNames_32 (by decide) ?_
          refine lv_icmp_eq (tgt := 43) hx hb d_S_isOfNames_34 (by decide) (fun c_10 => ?_) (fun c_10 => ?_)
          · rw [if_pos c_10] at hf
            refine lv_iconst (v := (1 : Int32)) hx hb d_S_isOfNames_43 (by decide) ?_
            refine lv_goto (tgt := 48) hx hb d_S_isOfNames_44 (by decide) ?_
            have ho := Option.some.inj hf
            subst o
            have hP9 := hP.sub (ws' := []) [] rfl
            have hD9 := hD.sub (ws' := []) [] (by decide) rfl
            exact W.zret (v := (1 : Int32)) (ty := .boolean) hx hb hr rfl (fun t ht hW => ⟨⟨(1 : Int32), (), rfl, ⟨rfl, rfl⟩, by rw [ht]; exact hP9, va_K.moved hW.alike hK, hD9⟩, hS.F ht⟩) hS.2.2 d_S_isOfNames_48
          · rw [if_neg c_10] at hf
            refine lv_iload_n hx hb d_S_isOfNames_37 rfl (lv_at hl 0 rfl) ?_
            refine lv_bipush (v := (46 : Int32)) hx hb d_S_isOfNames_38 (by decide) ?_
            refine lv_icmp_ne (tgt := 47) hx hb d_S_isOfNames_40 (by decide) (fun c_11 => ?_) (fun c_11 => ?_)
            · rw [if_neg c_11] at hf
              refine lv_iconst (v := (0 : Int32)) hx hb d_S_isOfNames_47 (by decide) ?_
              have ho := Option.some.inj hf
              subst o
              have hP9 := hP.sub (ws' := []) [] rfl
              have hD9 := hD.sub (ws' := []) [] (by decide) rfl
              exact W.zret (v := (0 : Int32)) (ty := .boolean) hx hb hr rfl (fun t ht hW => ⟨⟨(0 : Int32), (), rfl, ⟨rfl, rfl⟩, by rw [ht]; exact hP9, va_K.moved hW.alike hK, hD9⟩, hS.F ht⟩) hS.2.2 d_S_isOfNames_48
            · rw [if_pos c_11] at hf
              refine lv_iconst (v := (1 : Int32)) hx hb d_S_isOfNames_43 (by decide) ?_
              refine lv_goto (tgt := 48) hx hb d_S_isOfNames_44 (by decide) ?_
              have ho := Option.some.inj hf
              subst o
              have hP9 := hP.sub (ws' := []) [] rfl
              have hD9 := hD.sub (ws' := []) [] (by decide) rfl
              exact W.zret (v := (1 : Int32)) (ty := .boolean) hx hb hr rfl (fun t ht hW => ⟨⟨(1 : Int32), (), rfl, ⟨rfl, rfl⟩, by rw [ht]; exact hP9, va_K.moved hW.alike hK, hD9⟩, hS.F ht⟩) hS.2.2 d_S_isOfNames_48
  · rw [if_neg c_1] at hf
    refine lv_iload_n hx hb d_S_isOfNames_6 rfl (lv_at hl 0 rfl) ?_
    refine lv_bipush (v := (122 : Int32)) hx hb d_S_isOfNames_7 (by decide) ?_
    refine lv_icmp_le (tgt := 43) hx hb d_S_isOfNames_9 (by decide) (fun c_12 => ?_) (fun c_12 => ?_)
    · rw [if_pos c_12] at hf
      refine lv_iconst (v := (1 : Int32)) hx hb d_S_isOfNames_43 (by decide) ?_
      refine lv_goto (tgt := 48) hx hb d_S_isOfNames_44 (by decide) ?_
      have ho := Option.some.inj hf
      subst o
      have hP9 := hP.sub (ws' := []) [] rfl
      have hD9 := hD.sub (ws' := []) [] (by decide) rfl
      exact W.zret (v := (1 : Int32)) (ty := .boolean) hx hb hr rfl (fun t ht hW => ⟨⟨(1 : Int32), (), rfl, ⟨rfl, rfl⟩, by rw [ht]; exact hP9, va_K.moved hW.alike hK, hD9⟩, hS.F ht⟩) hS.2.2 d_S_isOfNames_48
    · rw [if_neg c_12] at hf
      refine lv_iload_n hx hb d_S_isOfNames_12 rfl (lv_at hl 0 rfl) ?_
      refine lv_bipush (v := (65 : Int32)) hx hb d_S_isOfNames_13 (by decide) ?_
      refine lv_icmp_lt (tgt := 24) hx hb d_S_isOfNames_15 (by decide) (fun c_13 => ?_) (fun c_13 => ?_)
      · rw [if_pos c_13] at hf
        refine lv_iload_n hx hb d_S_isOfNames_24 rfl (lv_at hl 0 rfl) ?_
        obtain ⟨o_14, hM_14, hf⟩ := bd_some hf
        refine cr_i (va_runS (As := [.int p0]) (rest := []) ⟨hx, hb, hml, hown, hts⟩ (c_S_isDigit l dC dI   s.heap.size  p0 o_14 hM_14) (va_cwS 1 hts (gwS wb_7 wb_9 wb_10 wb_8) rfl rfl rfl (by decide +kernel) ⟨Nat.le_of_ble_eq_true rfl, Nat.le_of_ble_eq_true rfl⟩) (pr_S (hP.sub [] rfl) (hD.sub [] (by decide) rfl) hK hN [] rfl) rfl rfl hl.1 rfl (lv_room (Nat.le_of_ble_eq_true rfl)) d_S_isOfNames_25 ⟨Nat.zero_le _, Nat.zero_le _⟩) hP hD hS hA (in_of [] rfl) (fun r_14 H locs hw hP hS => ?_)
        obtain ⟨hw, hz_14⟩ := hw
        subst r_14
        refine lv_if_ne (tgt := 43) hx hb d_S_isOfNames_28 (by decide) (fun c_15 => ?_) (fun c_15 => ?_)
        · rw [if_neg c_15] at hf
          refine lv_iconst (v := (1 : Int32)) hx hb d_S_isOfNames_43 (by decide) ?_
          refine lv_goto (tgt := 48) hx hb d_S_isOfNames_44 (by decide) ?_
          have ho := Option.some.inj hf
          subst o
          have hP9 := hP.sub (ws' := []) [] rfl
          have hD9 := hD.sub (ws' := []) [] (by decide) rfl
          exact W.zret (v := (1 : Int32)) (ty := .boolean) hx hb hr rfl (fun t ht hW => ⟨⟨(1 : Int32), (), rfl, ⟨rfl, rfl⟩, by rw [ht]; exact hP9, va_K.moved hW.alike hK, hD9⟩, hS.F ht⟩) hS.2.2 d_S_isOfNames_48
        · rw [if_pos c_15] at hf
          refine lv_iload_n hx hb d_S_isOfNames_31 rfl (lv_at hl 0 rfl) ?_
          refine lv_bipush (v := (95 : Int32)) hx hb d_S_isOfNames_32 (by decide) ?_
          refine lv_icmp_eq (tgt := 43) hx hb d_S_isOfNames_34 (by decide) (fun c_16 => ?_) (fun c_16 => ?_)
          · rw [if_pos c_16] at hf
            refine lv_iconst (v := (1 : Int32)) hx hb d_S_isOfNames_43 (by decide) ?_
            refine lv_goto (tgt := 48) hx hb d_S_isOfNames_44 (by decide) ?_
            have ho := Option.some.inj hf
            subst o
            have hP9 := hP.sub (ws' := []) [] rfl
            have hD9 := hD.sub (ws' := []) [] (by decide) rfl
            exact W.zret (v := (1 : Int32)) (ty := .boolean) hx hb hr rfl (fun t ht hW => ⟨⟨(1 : Int32), (), rfl, ⟨rfl, rfl⟩, by rw [ht]; exact hP9, va_K.moved hW.alike hK, hD9⟩, hS.F ht⟩) hS.2.2 d_S_isOfNames_48
          · rw [if_neg c_16] at hf
            refine lv_iload_n hx hb d_S_isOfNames_37 rfl (lv_at hl 0 rfl) ?_
            refine lv_bipush (v := (46 : Int32)) hx hb d_S_isOfNames_38 (by decide) ?_
            refine lv_icmp_ne (tgt := 47) hx hb d_S_isOfNames_40 (by decide) (fun c_17 => ?_) (fun c_17 => ?_)
            · rw [if_neg c_17] at hf
              refine lv_iconst (v := (0 : Int32)) hx hb d_S_isOfNames_47 (by decide) ?_
              have ho := Option.some.inj hf
              subst o
              have hP9 := hP.sub (ws' := []) [] rfl
              have hD9 := hD.sub (ws' := []) [] (by decide) rfl
              exact W.zret (v := (0 : Int32)) (ty := .boolean) hx hb hr rfl (fun t ht hW => ⟨⟨(0 : Int32), (), rfl, ⟨rfl, rfl⟩, by rw [ht]; exact hP9, va_K.moved hW.alike hK, hD9⟩, hS.F ht⟩) hS.2.2 d_S_isOfNames_48
            · rw [if_pos c_17] at hf
              refine lv_iconst (v := (1 : Int32)) hx hb d_S_isOfNames_43 (by decide) ?_
              refine lv_goto (tgt := 48) hx hb d_S_isOfNames_44 (by decide) ?_
              have ho := Option.some.inj hf
              subst o
              have hP9 := hP.sub (ws' := []) [] rfl
              have hD9 := hD.sub (ws' := []) [] (by decide) rfl
              exact W.zret (v := (1 : Int32)) (ty := .boolean) hx hb hr rfl (fun t ht hW => ⟨⟨(1 : Int32), (), rfl, ⟨rfl, rfl⟩, by rw [ht]; exact hP9, va_K.moved hW.alike hK, hD9⟩, hS.F ht⟩) hS.2.2 d_S_isOfNames_48
      · rw [if_neg c_13] at hf
        refine lv_iload_n hx hb d_S_isOfNames_18 rfl (lv_at hl 0 rfl) ?_
        refine lv_bipush (v := (90 : Int32)) hx hb d_S_isOfNames_19 (by decide) ?_
        refine lv_icmp_le (tgt := 43) hx hb d_S_isOfNames_21 (by decide) (fun c_18 => ?_) (fun c_18 => ?_)
        · rw [if_pos c_18] at hf
          refine lv_iconst (v := (1 : Int32)) hx hb d_S_isOfNames_43 (by decide) ?_
          refine lv_goto (tgt := 48) hx hb d_S_isOfNames_44 (by decide) ?_
          have ho := Option.some.inj hf
          subst o
          have hP9 := hP.sub (ws' := []) [] rfl
          have hD9 := hD.sub (ws' := []) [] (by decide) rfl
          exact W.zret (v := (1 : Int32)) (ty := .boolean) hx hb hr rfl (fun t ht hW => ⟨⟨(1 : Int32), (), rfl, ⟨rfl, rfl⟩, by rw [ht]; exact hP9, va_K.moved hW.alike hK, hD9⟩, hS.F ht⟩) hS.2.2 d_S_isOfNames_48
        · rw [if_neg c_18] at hf
          refine lv_iload_n hx hb d_S_isOfNames_24 rfl (lv_at hl 0 rfl) ?_
          obtain ⟨o_19, hM_19, hf⟩ := bd_some hf
          refine cr_i (va_runS (As := [.int p0]) (rest := []) ⟨hx, hb, hml, hown, hts⟩ (c_S_isDigit l dC dI   s.heap.size  p0 o_19 hM_19) (va_cwS 1 hts (gwS wb_7 wb_9 wb_10 wb_8) rfl rfl rfl (by decide +kernel) ⟨Nat.le_of_ble_eq_true rfl, Nat.le_of_ble_eq_true rfl⟩) (pr_S (hP.sub [] rfl) (hD.sub [] (by decide) rfl) hK hN [] rfl) rfl rfl hl.1 rfl (lv_room (Nat.le_of_ble_eq_true rfl)) d_S_isOfNames_25 ⟨Nat.zero_le _, Nat.zero_le _⟩) hP hD hS hA (in_of [] rfl) (fun r_19 H locs hw hP hS => ?_)
          obtain ⟨hw, hz_19⟩ := hw
          subst r_19
          refine lv_if_ne (tgt := 43) hx hb d_S_isOfNames_28 (by decide) (fun c_20 => ?_) (fun c_20 => ?_)
          · rw [if_neg c_20] at hf
            refine lv_iconst (v := (1 : Int32)) hx hb d_S_isOfNames_43 (by decide) ?_
            refine lv_goto (tgt := 48) hx hb d_S_isOfNames_44 (by decide) ?_
            have ho := Option.some.inj hf
            subst o
            have hP9 := hP.sub (ws' := []) [] rfl
            have hD9 := hD.sub (ws' := []) [] (by decide) rfl
            exact W.zret (v := (1 : Int32)) (ty := .boolean) hx hb hr rfl (fun t ht hW => ⟨⟨(1 : Int32), (), rfl, ⟨rfl, rfl⟩, by rw [ht]; exact hP9, va_K.moved hW.alike hK, hD9⟩, hS.F ht⟩) hS.2.2 d_S_isOfNames_48
          · rw [if_pos c_20] at hf
            refine lv_iload_n hx hb d_S_isOfNames_31 rfl (lv_at hl 0 rfl) ?_
            refine lv_bipush (v := (95 : Int32)) hx hb d_S_isOfNames_32 (by decide) ?_
            refine lv_icmp_eq (tgt := 43) hx hb d_S_isOfNames_34 (by decide) (fun c_21 => ?_) (fun c_21 => ?_)
            · rw [if_pos c_21] at hf
              refine lv_iconst (v := (1 : Int32)) hx hb d_S_isOfNames_43 (by decide) ?_
              refine lv_goto (tgt := 48) hx hb d_S_isOfNames_44 (by decide) ?_
              have ho := Option.some.inj hf
              subst o
              have hP9 := hP.sub (ws' := []) [] rfl
              have hD9 := hD.sub (ws' := []) [] (by decide) rfl
              exact W.zret (v := (1 : Int32)) (ty := .boolean) hx hb hr rfl (fun t ht hW => ⟨⟨(1 : Int32), (), rfl, ⟨rfl, rfl⟩, by rw [ht]; exact hP9, va_K.moved hW.alike hK, hD9⟩, hS.F ht⟩) hS.2.2 d_S_isOfNames_48
            · rw [if_neg c_21] at hf
              refine lv_iload_n hx hb d_S_isOfNames_37 rfl (lv_at hl 0 rfl) ?_
              refine lv_bipush (v := (46 : Int32)) hx hb d_S_isOfNames_38 (by decide) ?_
              refine lv_icmp_ne (tgt := 47) hx hb d_S_isOfNames_40 (by decide) (fun c_22 => ?_) (fun c_22 => ?_)
              · rw [if_neg c_22] at hf
                refine lv_iconst (v := (0 : Int32)) hx hb d_S_isOfNames_47 (by decide) ?_
                have ho := Option.some.inj hf
                subst o
                have hP9 := hP.sub (ws' := []) [] rfl
                have hD9 := hD.sub (ws' := []) [] (by decide) rfl
                exact W.zret (v := (0 : Int32)) (ty := .boolean) hx hb hr rfl (fun t ht hW => ⟨⟨(0 : Int32), (), rfl, ⟨rfl, rfl⟩, by rw [ht]; exact hP9, va_K.moved hW.alike hK, hD9⟩, hS.F ht⟩) hS.2.2 d_S_isOfNames_48
              · rw [if_pos c_22] at hf
                refine lv_iconst (v := (1 : Int32)) hx hb d_S_isOfNames_43 (by decide) ?_
                refine lv_goto (tgt := 48) hx hb d_S_isOfNames_44 (by decide) ?_
                have ho := Option.some.inj hf
                subst o
                have hP9 := hP.sub (ws' := []) [] rfl
                have hD9 := hD.sub (ws' := []) [] (by decide) rfl
                exact W.zret (v := (1 : Int32)) (ty := .boolean) hx hb hr rfl (fun t ht hW => ⟨⟨(1 : Int32), (), rfl, ⟨rfl, rfl⟩, by rw [ht]; exact hP9, va_K.moved hW.alike hK, hD9⟩, hS.F ht⟩) hS.2.2 d_S_isOfNames_48

def f_S_isPrintable (p0 : Int32) : Option (Int32) := if p0 < (32 : Int32) then some ((0 : Int32)) else if (126 : Int32) < p0 then some ((0 : Int32)) else some ((1 : Int32))
set_option maxHeartbeats 4000000 in
set_option maxRecDepth 100000 in
theorem c_S_isPrintable (l : Launch) (dC : Nat → ClassId) (dI : Nat → Nat → Nat) (sz : Nat) (p0 : Int32) (o : Int32) (hf : f_S_isPrintable p0 = some o) : Met l y_S_isPrintable (w_S_isPrintable) ({ frames := 0, cells := 0, slots := 0, locals := 0 }) (va_Pc [.int p0] (fun U => U.heap.size = sz ∧ va_P (dC, dI) vwCl [] U.heap ∧ va_K (dC, dI) vwCl [] U ∧ va_D (fun _ => True) [] ∧ NW U)) (va_Qi (fun (r : Int32) (_ : Unit) => r = o ∧ narrow .boolean (.int r) = .int r) (fun _ t => va_P (dC, dI) vwCl [] t.heap ∧ va_K (dC, dI) vwCl [] t ∧ va_D (va_A [] sz) []) (va_A [] sz)) 0 0 (va_A [] sz) := by
  refine Met.ofW (cc := b_S_isPrintable) (maxL := 1) (ret := (some .boolean)) (by decide) rfl ?_
  intro p e s m args below meth c s₁ B hml hv
  obtain ⟨rfl, hsz, hP, hK, hD0, hN⟩ := hv
  have hx := B.exec
  have hb := B.bytes
  have hr := B.returns
  have hts : ∀ w ∈ WB, w.before _ s = true := fun w h => atoms_spec (ws := w_S_isPrintable) B.pre w (List.mem_cons_of_mem _ h)
  have hown : s.vm.findClass R_S = some m.cls := findClass_of_methodNamed B.named
  have hlocks := B.notSynchronized
  subst hsz
  have hD := hD0.self (sz := s.heap.size)
  generalize hAe : va_A [] s.heap.size = A at hD ⊢
  have hA : ∀ q : Nat, s.heap.size ≤ q → A q := fun q h => by rw [← hAe]; exact Or.inr h
  have hS : va_S A s.heap s.heap [] := va_S.rf
  have hP : va_P (dC, dI) vwCl [] s.heap := hP
  have hl := lv_entry [.int p0] (n := 1) (Nat.le_of_ble_eq_true rfl)
  rw [lg_entry_eq]
  generalize (lg_sl [.int p0] ++ List.replicate (1 - (lg_sl [.int p0]).length) Slot.unset).toArray = ls at hl ⊢
  have hl : lv_has ls 1 [(0, .int p0)] := hl
  rw [f_S_isPrintable] at hf
  refine lv_iload_n hx hb d_S_isPrintable_0 rfl (lv_at hl 0 rfl) ?_
  refine lv_bipush (v := (32 : Int32)) hx hb d_S_isPrintable_1 (by decide) ?_
  refine lv_icmp_lt (tgt := 16) hx hb d_S_isPrintable_3 (by decide) (fun c_1 => ?_) (fun c_1 => ?_)
  · rw [if_pos c_1] at hf
    refine lv_iconst (v := (0 : Int32)) hx hb d_S_isPrintable_16 (by decide) ?_
    have ho := Option.some.inj hf
    subst o
    have hP9 := hP.sub (ws' := []) [] rfl
    have hD9 := hD.sub (ws' := []) [] (by decide) rfl
    exact W.zret (v := (0 : Int32)) (ty := .boolean) hx hb hr rfl (fun t ht hW => ⟨⟨(0 : Int32), (), rfl, ⟨rfl, rfl⟩, by rw [ht]; exact hP9, va_K.moved hW.alike hK, hD9⟩, hS.F ht⟩) hS.2.2 d_S_isPrintable_17
  · rw [if_neg c_1] at hf
    refine lv_iload_n hx hb d_S_isPrintable_6 rfl (lv_at hl 0 rfl) ?_
    refine lv_bipush (v := (126 : Int32)) hx hb d_S_isPrintable_7 (by decide) ?_
    refine lv_icmp_gt (tgt := 16) hx hb d_S_isPrintable_9 (by decide) (fun c_2 => ?_) (fun c_2 => ?_)
    · rw [if_pos c_2] at hf
      refine lv_iconst (v := (0 : Int32)) hx hb d_S_isPrintable_16 (by decide) ?_
      have ho := Option.some.inj hf
      subst o
      have hP9 := hP.sub (ws' := []) [] rfl
      have hD9 := hD.sub (ws' := []) [] (by decide) rfl
      exact W.zret (v := (0 : Int32)) (ty := .boolean) hx hb hr rfl (fun t ht hW => ⟨⟨(0 : Int32), (), rfl, ⟨rfl, rfl⟩, by rw [ht]; exact hP9, va_K.moved hW.alike hK, hD9⟩, hS.F ht⟩) hS.2.2 d_S_isPrintable_17
    · rw [if_neg c_2] at hf
      refine lv_iconst (v := (1 : Int32)) hx hb d_S_isPrintable_12 (by decide) ?_
      refine lv_goto (tgt := 17) hx hb d_S_isPrintable_13 (by decide) ?_
      have ho := Option.some.inj hf
      subst o
      have hP9 := hP.sub (ws' := []) [] rfl
      have hD9 := hD.sub (ws' := []) [] (by decide) rfl
      exact W.zret (v := (1 : Int32)) (ty := .boolean) hx hb hr rfl (fun t ht hW => ⟨⟨(1 : Int32), (), rfl, ⟨rfl, rfl⟩, by rw [ht]; exact hP9, va_K.moved hW.alike hK, hD9⟩, hS.F ht⟩) hS.2.2 d_S_isPrintable_17

def f_S_nextStart_l2 : Nat → Int32 → (Nat → Int32) → Int32 → Option (Int32)
  | 0, _, _, _ => none
  | n + 1, ln, lb, x2 => (f_L_size ln).bind (fun o_1 => if o_1 ≤ x2 then (f_L_size ln).bind (fun o_3 => some (o_3)) else (f_L_at ln lb x2).bind (fun o_4 => if o_4 = (59 : Int32) then (f_L_size ln).bind (fun o_8 => some (o_8)) else if o_4 = (9 : Int32) then f_S_nextStart_l2 n ln lb (x2 + (1 : Int32)) else if o_4 = (32 : Int32) then f_S_nextStart_l2 n ln lb (x2 + (1 : Int32)) else some (x2)))
def f_S_nextStart (ln : Int32) (lb : Nat → Int32) (p1 : Int32) : Option (Int32) := f_S_nextStart_l2 FU ln lb p1
set_option maxHeartbeats 4000000 in
set_option maxRecDepth 100000 in
theorem c_S_nextStart (l : Launch) (dC : Nat → ClassId) (dI : Nat → Nat → Nat) (aL aB : Nat) (cB : ClassId) (sz : Nat) (ln : Int32) (lb : Nat → Int32) (p1 : Int32) (o : Int32) (hf : f_S_nextStart ln lb p1 = some o) : Met l y_S_nextStart (w_S_nextStart) ({ frames := 1, cells := 0, slots := 0, locals := 21 }) (va_Pc [.ref aL, .int p1] (fun U => U.heap.size = sz ∧ va_P (dC, dI) vwCl [(aL, .inr (1, [.ref aB, .int ln])), (aB, .inl (cB, 1024, .inl lb))] U.heap ∧ va_K (dC, dI) vwCl [(cB, .byte)] U ∧ va_D (fun _ => True) [(aL, .inr (1, [.ref aB, .int ln])), (aB, .inl (cB, 1024, .inl lb))] ∧ NW U)) (va_Qi (fun (r : Int32) (_ : Unit) => r = o) (fun _ t => va_P (dC, dI) vwCl [(aL, .inr (1, [.ref aB, .int ln])), (aB, .inl (cB, 1024, .inl lb))] t.heap ∧ va_K (dC, dI) vwCl [(cB, .byte)] t ∧ va_D (va_A [(aL, .inr (1, [.ref aB, .int ln])), (aB, .inl (cB, 1024, .inl lb))] sz) [(aL, .inr (1, [.ref aB, .int ln])), (aB, .inl (cB, 1024, .inl lb))]) (va_A [(aL, .inr (1, [.ref aB, .int ln])), (aB, .inl (cB, 1024, .inl lb))] sz)) 0 0 (va_A [(aL, .inr (1, [.ref aB, .int ln])), (aB, .inl (cB, 1024, .inl lb))] sz) := by
  refine Met.ofW (cc := b_S_nextStart) (maxL := 4) (ret := (some .int)) (by decide) rfl ?_
  intro p e s m args below meth c s₁ B hml hv
  obtain ⟨rfl, hsz, hP, hK, hD0, hN⟩ := hv
  have hx := B.exec
  have hb := B.bytes
  have hr := B.returns
  have hts : ∀ w ∈ WB, w.before _ s = true := fun w h => atoms_spec (ws := w_S_nextStart) B.pre w (List.mem_cons_of_mem _ h)
  have hown : s.vm.findClass R_S = some m.cls := findClass_of_methodNamed B.named
  have hlocks := B.notSynchronized
  subst hsz
  have hD := hD0.self (sz := s.heap.size)
  generalize hAe : va_A [(aL, .inr (1, [.ref aB, .int ln])), (aB, .inl (cB, 1024, .inl lb))] s.heap.size = A at hD ⊢
  have hA : ∀ q : Nat, s.heap.size ≤ q → A q := fun q h => by rw [← hAe]; exact Or.inr h
  have hS : va_S A s.heap s.heap [] := va_S.rf
  have hP : va_P (dC, dI) vwCl [(aL, .inr (1, [.ref aB, .int ln])), (aB, .inl (cB, 1024, .inl lb))] s.heap := hP
  have hl := lv_entry [.ref aL, .int p1] (n := 4) (Nat.le_of_ble_eq_true rfl)
  rw [lg_entry_eq]
  generalize (lg_sl [.ref aL, .int p1] ++ List.replicate (4 - (lg_sl [.ref aL, .int p1]).length) Slot.unset).toArray = ls at hl ⊢
  have hl : lv_has ls 4 [(0, .ref aL), (1, .int p1)] := hl
  have loop_2 : ∀ (n : Nat) (ln : Int32) (lb : Nat → Int32) (x2 : Int32) (H : Heap) (locs : List Loc) (ls : Array Slot), f_S_nextStart_l2 n ln lb x2 = some o → va_P (dC, dI) vwCl [(aL, .inr (1, [.ref aB, .int ln])), (aB, .inl (cB, 1024, .inl lb))] H → va_D A [(aL, .inr (1, [.ref aB, .int ln])), (aB, .inl (cB, 1024, .inl lb))] → va_S A s.heap H locs → lv_has ls 4 [(0, .ref aL), (2, .int x2)] → W p l e (headSpec (w_S_nextStart) ({ frames := 1, cells := 0, slots := 0, locals := 21 })).room s m [.ref aL, .int p1].toArray below meth c H locs 0 0 (MQ below (va_Qi (fun (r : Int32) (_ : Unit) => r = o) (fun _ t => va_P (dC, dI) vwCl [(aL, .inr (1, [.ref aB, .int ln])), (aB, .inl (cB, 1024, .inl lb))] t.heap ∧ va_K (dC, dI) vwCl [(cB, .byte)] t ∧ va_D A [(aL, .inr (1, [.ref aB, .int ln])), (aB, .inl (cB, 1024, .inl lb))]) A) [.ref aL, .int p1].toArray s 0 0 A) (F0 m 2 ls []) := by
    intro n
    induction n with
    | zero => intro ln lb x2 H locs ls hf; exact absurd hf (by simp [f_S_nextStart_l2])
    | succ n ih =>
      intro ln lb x2 H locs ls hf hP hD hS hl
      rw [f_S_nextStart_l2] at hf
      refine lv_iload_n hx hb d_S_nextStart_2 rfl (lv_at hl 1 rfl) ?_
      refine lv_aload_n hx hb d_S_nextStart_3 rfl (lv_at hl 0 rfl) ?_
      obtain ⟨o_1, hM_1, hf⟩ := bd_some hf
      refine cr_i (va_runV (As := []) (rest := [.int x2]) ⟨hx, hb, hml, hown, hts⟩ (c_L_size l dC dI aL aB  H.size ln  o_1 hM_1) (cwV 0 hts (gwV wb_11 wb_13 wb_14 wb_6 wb_12) rfl rfl rfl (by decide +kernel) ⟨Nat.le_of_ble_eq_true rfl, Nat.le_of_ble_eq_true rfl⟩) (pr_V (hP.sub [0] rfl) (hD.sub [0] (by decide) rfl) hK hN [] rfl (ci := 1) rfl rfl rfl) rfl rfl hl.1 rfl (lv_room (Nat.le_of_ble_eq_true rfl)) d_S_nextStart_4 ⟨Nat.zero_le _, Nat.zero_le _⟩) hP hD hS hA (in_of [0] rfl) (fun r_1 H locs hw hP hS => ?_)
      subst r_1
      refine lv_icmp_ge (tgt := 47) hx hb d_S_nextStart_7 (by decide) (fun c_2 => ?_) (fun c_2 => ?_)
      · rw [if_pos c_2] at hf
        refine lv_aload_n hx hb d_S_nextStart_47 rfl (lv_at hl 0 rfl) ?_
        obtain ⟨o_3, hM_3, hf⟩ := bd_some hf
        refine cr_i (va_runV (As := []) (rest := []) ⟨hx, hb, hml, hown, hts⟩ (c_L_size l dC dI aL aB  H.size ln  o_3 hM_3) (cwV 0 hts (gwV wb_11 wb_13 wb_14 wb_6 wb_12) rfl rfl rfl (by decide +kernel) ⟨Nat.le_of_ble_eq_true rfl, Nat.le_of_ble_eq_true rfl⟩) (pr_V (hP.sub [0] rfl) (hD.sub [0] (by decide) rfl) hK hN [] rfl (ci := 1) rfl rfl rfl) rfl rfl hl.1 rfl (lv_room (Nat.le_of_ble_eq_true rfl)) d_S_nextStart_48 ⟨Nat.zero_le _, Nat.zero_le _⟩) hP hD hS hA (in_of [0] rfl) (fun r_3 H locs hw hP hS => ?_)
        subst r_3
        have ho := Option.some.inj hf
        subst o
        have hP9 := hP.sub (ws' := [(aL, .inr (1, [.ref aB, .int ln])), (aB, .inl (cB, 1024, .inl lb))]) [0, 1] rfl
        have hD9 := hD.sub (ws' := [(aL, .inr (1, [.ref aB, .int ln])), (aB, .inl (cB, 1024, .inl lb))]) [0, 1] (by decide) rfl
        exact W.iret (v := o_3) hx hb hr (fun t ht hW => ⟨⟨o_3, (), rfl, rfl, by rw [ht]; exact hP9, va_K.moved hW.alike hK, hD9⟩, hS.F ht⟩) hS.2.2 d_S_nextStart_51
      · rw [if_neg c_2] at hf
        refine lv_aload_n hx hb d_S_nextStart_10 rfl (lv_at hl 0 rfl) ?_
        refine lv_iload_n hx hb d_S_nextStart_11 rfl (lv_at hl 1 rfl) ?_
        obtain ⟨o_4, hM_4, hf⟩ := bd_some hf
        refine cr_i (va_runV (As := [.int x2]) (rest := []) ⟨hx, hb, hml, hown, hts⟩ (c_L_at l dC dI aL aB cB H.size ln lb x2 o_4 hM_4) (cwV 1 hts (gwV wb_15 wb_4 wb_5 wb_6 wb_3) rfl rfl rfl (by decide +kernel) ⟨Nat.le_of_ble_eq_true rfl, Nat.le_of_ble_eq_true rfl⟩) (pr_V (hP.sub [0, 1] rfl) (hD.sub [0, 1] (by decide) rfl) hK hN [0] rfl (ci := 1) rfl rfl rfl) rfl rfl hl.1 rfl (lv_room (Nat.le_of_ble_eq_true rfl)) d_S_nextStart_12 ⟨Nat.zero_le _, Nat.zero_le _⟩) hP hD hS hA (in_of [0, 1] rfl) (fun r_4 H locs hw hP hS => ?_)
        subst r_4
        refine lv_istore_n (lv' := [(3, .int o_4), (0, .ref aL), (2, .int x2)]) hx hb d_S_nextStart_15 rfl hl (by decide) rfl (fun ls hl => ?_)
        refine lv_iload_n hx hb d_S_nextStart_16 rfl (lv_at hl 0 rfl) ?_
        refine lv_bipush (v := (59 : Int32)) hx hb d_S_nextStart_17 (by decide) ?_
        refine lv_icmp_ne (tgt := 27) hx hb d_S_nextStart_19 (by decide) (fun c_5 => ?_) (fun c_5 => ?_)
        · rw [if_neg c_5] at hf
          refine lv_iload_n hx hb d_S_nextStart_27 rfl (lv_at hl 0 rfl) ?_
          refine lv_bipush (v := (9 : Int32)) hx hb d_S_nextStart_28 (by decide) ?_
          refine lv_icmp_eq (tgt := 41) hx hb d_S_nextStart_30 (by decide) (fun c_6 => ?_) (fun c_6 => ?_)
          · rw [if_pos c_6] at hf
            refine lv_iinc (v := x2 + (1 : Int32)) (lv' := [(2, .int (x2 + (1 : Int32))), (3, .int o_4), (0, .ref aL)]) hx hb d_S_nextStart_41 hl (k := 2) rfl rfl (by decide) rfl (fun ls hl => ?_)
            refine lv_goto (tgt := 2) hx hb d_S_nextStart_44 (by decide) ?_
            exact ih ln lb (x2 + (1 : Int32)) H locs ls hf (hP.sub (ws' := [(aL, .inr (1, [.ref aB, .int ln])), (aB, .inl (cB, 1024, .inl lb))]) [0, 1] rfl) (hD.sub (ws' := [(aL, .inr (1, [.ref aB, .int ln])), (aB, .inl (cB, 1024, .inl lb))]) [0, 1] (by decide) rfl) hS (lv_sub hl [2, 0] rfl)
          · rw [if_neg c_6] at hf
            refine lv_iload_n hx hb d_S_nextStart_33 rfl (lv_at hl 0 rfl) ?_
            refine lv_bipush (v := (32 : Int32)) hx hb d_S_nextStart_34 (by decide) ?_
            refine lv_icmp_eq (tgt := 41) hx hb d_S_nextStart_36 (by decide) (fun c_7 => ?_) (fun c_7 => ?_)
            · rw [if_pos c_7] at hf
              refine lv_iinc (v := x2 + (1 : Int32)) (lv' := [(2, .int (x2 + (1 : Int32))), (3, .int o_4), (0, .ref aL)]) hx hb d_S_nextStart_41 hl (k := 2) rfl rfl (by decide) rfl (fun ls hl => ?_)
              refine lv_goto (tgt := 2) hx hb d_S_nextStart_44 (by decide) ?_
              exact ih ln lb (x2 + (1 : Int32)) H locs ls hf (hP.sub (ws' := [(aL, .inr (1, [.ref aB, .int ln])), (aB, .inl (cB, 1024, .inl lb))]) [0, 1] rfl) (hD.sub (ws' := [(aL, .inr (1, [.ref aB, .int ln])), (aB, .inl (cB, 1024, .inl lb))]) [0, 1] (by decide) rfl) hS (lv_sub hl [2, 0] rfl)
            · rw [if_neg c_7] at hf
              refine lv_iload_n hx hb d_S_nextStart_39 rfl (lv_at hl 2 rfl) ?_
              have ho := Option.some.inj hf
              subst o
              have hP9 := hP.sub (ws' := [(aL, .inr (1, [.ref aB, .int ln])), (aB, .inl (cB, 1024, .inl lb))]) [0, 1] rfl
              have hD9 := hD.sub (ws' := [(aL, .inr (1, [.ref aB, .int ln])), (aB, .inl (cB, 1024, .inl lb))]) [0, 1] (by decide) rfl
              exact W.iret (v := x2) hx hb hr (fun t ht hW => ⟨⟨x2, (), rfl, rfl, by rw [ht]; exact hP9, va_K.moved hW.alike hK, hD9⟩, hS.F ht⟩) hS.2.2 d_S_nextStart_40
        · rw [if_pos c_5] at hf
          refine lv_aload_n hx hb d_S_nextStart_22 rfl (lv_at hl 1 rfl) ?_
          obtain ⟨o_8, hM_8, hf⟩ := bd_some hf
          refine cr_i (va_runV (As := []) (rest := []) ⟨hx, hb, hml, hown, hts⟩ (c_L_size l dC dI aL aB  H.size ln  o_8 hM_8) (cwV 0 hts (gwV wb_11 wb_13 wb_14 wb_6 wb_12) rfl rfl rfl (by decide +kernel) ⟨Nat.le_of_ble_eq_true rfl, Nat.le_of_ble_eq_true rfl⟩) (pr_V (hP.sub [0] rfl) (hD.sub [0] (by decide) rfl) hK hN [] rfl (ci := 1) rfl rfl rfl) rfl rfl hl.1 rfl (lv_room (Nat.le_of_ble_eq_true rfl)) d_S_nextStart_23 ⟨Nat.zero_le _, Nat.zero_le _⟩) hP hD hS hA (in_of [0] rfl) (fun r_8 H locs hw hP hS => ?_)
          subst r_8
          have ho := Option.some.inj hf
          subst o
          have hP9 := hP.sub (ws' := [(aL, .inr (1, [.ref aB, .int ln])), (aB, .inl (cB, 1024, .inl lb))]) [0, 1] rfl
          have hD9 := hD.sub (ws' := [(aL, .inr (1, [.ref aB, .int ln])), (aB, .inl (cB, 1024, .inl lb))]) [0, 1] (by decide) rfl
          exact W.iret (v := o_8) hx hb hr (fun t ht hW => ⟨⟨o_8, (), rfl, rfl, by rw [ht]; exact hP9, va_K.moved hW.alike hK, hD9⟩, hS.F ht⟩) hS.2.2 d_S_nextStart_26
  rw [f_S_nextStart] at hf
  refine lv_iload_n hx hb d_S_nextStart_0 rfl (lv_at hl 1 rfl) ?_
  refine lv_istore_n (lv' := [(2, .int p1), (0, .ref aL), (1, .int p1)]) hx hb d_S_nextStart_1 rfl hl (by decide) rfl (fun ls hl => ?_)
  exact loop_2 FU ln lb p1 s.heap [] ls hf (hP.sub (ws' := [(aL, .inr (1, [.ref aB, .int ln])), (aB, .inl (cB, 1024, .inl lb))]) [0, 1] rfl) (hD.sub (ws' := [(aL, .inr (1, [.ref aB, .int ln])), (aB, .inl (cB, 1024, .inl lb))]) [0, 1] (by decide) rfl) hS (lv_sub hl [1, 0] rfl)

def f_S_endOfName_l2 : Nat → Int32 → (Nat → Int32) → Int32 → Option (Int32)
  | 0, _, _, _ => none
  | n + 1, ln, lb, x2 => (f_L_size ln).bind (fun o_1 => if o_1 ≤ x2 then some (x2) else (f_L_at ln lb x2).bind (fun o_3 => (f_S_isOfNames o_3).bind (fun o_4 => if o_4 = (0 : Int32) then some (x2) else f_S_endOfName_l2 n ln lb (x2 + (1 : Int32)))))
def f_S_endOfName (ln : Int32) (lb : Nat → Int32) (p1 : Int32) : Option (Int32) := f_S_endOfName_l2 FU ln lb p1
set_option maxHeartbeats 4000000 in
set_option maxRecDepth 100000 in
theorem c_S_endOfName (l : Launch) (dC : Nat → ClassId) (dI : Nat → Nat → Nat) (aL aB : Nat) (cB : ClassId) (sz : Nat) (ln : Int32) (lb : Nat → Int32) (p1 : Int32) (o : Int32) (hf : f_S_endOfName ln lb p1 = some o) : Met l y_S_endOfName (w_S_endOfName) ({ frames := 2, cells := 0, slots := 0, locals := 40 }) (va_Pc [.ref aL, .int p1] (fun U => U.heap.size = sz ∧ va_P (dC, dI) vwCl [(aL, .inr (1, [.ref aB, .int ln])), (aB, .inl (cB, 1024, .inl lb))] U.heap ∧ va_K (dC, dI) vwCl [(cB, .byte)] U ∧ va_D (fun _ => True) [(aL, .inr (1, [.ref aB, .int ln])), (aB, .inl (cB, 1024, .inl lb))] ∧ NW U)) (va_Qi (fun (r : Int32) (_ : Unit) => r = o) (fun _ t => va_P (dC, dI) vwCl [(aL, .inr (1, [.ref aB, .int ln])), (aB, .inl (cB, 1024, .inl lb))] t.heap ∧ va_K (dC, dI) vwCl [(cB, .byte)] t ∧ va_D (va_A [(aL, .inr (1, [.ref aB, .int ln])), (aB, .inl (cB, 1024, .inl lb))] sz) [(aL, .inr (1, [.ref aB, .int ln])), (aB, .inl (cB, 1024, .inl lb))]) (va_A [(aL, .inr (1, [.ref aB, .int ln])), (aB, .inl (cB, 1024, .inl lb))] sz)) 0 0 (va_A [(aL, .inr (1, [.ref aB, .int ln])), (aB, .inl (cB, 1024, .inl lb))] sz) := by
  refine Met.ofW (cc := b_S_endOfName) (maxL := 3) (ret := (some .int)) (by decide) rfl ?_
  intro p e s m args below meth c s₁ B hml hv
  obtain ⟨rfl, hsz, hP, hK, hD0, hN⟩ := hv
  have hx := B.exec
  have hb := B.bytes
  have hr := B.returns
  have hts : ∀ w ∈ WB, w.before _ s = true := fun w h => atoms_spec (ws := w_S_endOfName) B.pre w (List.mem_cons_of_mem _ h)
  have hown : s.vm.findClass R_S = some m.cls := findClass_of_methodNamed B.named
  have hlocks := B.notSynchronized
  subst hsz
  have hD := hD0.self (sz := s.heap.size)
  generalize hAe : va_A [(aL, .inr (1, [.ref aB, .int ln])), (aB, .inl (cB, 1024, .inl lb))] s.heap.size = A at hD ⊢
  have hA : ∀ q : Nat, s.heap.size ≤ q → A q := fun q h => by rw [← hAe]; exact Or.inr h
  have hS : va_S A s.heap s.heap [] := va_S.rf
  have hP : va_P (dC, dI) vwCl [(aL, .inr (1, [.ref aB, .int ln])), (aB, .inl (cB, 1024, .inl lb))] s.heap := hP
  have hl := lv_entry [.ref aL, .int p1] (n := 3) (Nat.le_of_ble_eq_true rfl)
  rw [lg_entry_eq]
  generalize (lg_sl [.ref aL, .int p1] ++ List.replicate (3 - (lg_sl [.ref aL, .int p1]).length) Slot.unset).toArray = ls at hl ⊢
  have hl : lv_has ls 3 [(0, .ref aL), (1, .int p1)] := hl
  have loop_2 : ∀ (n : Nat) (ln : Int32) (lb : Nat → Int32) (x2 : Int32) (H : Heap) (locs : List Loc) (ls : Array Slot), f_S_endOfName_l2 n ln lb x2 = some o → va_P (dC, dI) vwCl [(aL, .inr (1, [.ref aB, .int ln])), (aB, .inl (cB, 1024, .inl lb))] H → va_D A [(aL, .inr (1, [.ref aB, .int ln])), (aB, .inl (cB, 1024, .inl lb))] → va_S A s.heap H locs → lv_has ls 3 [(0, .ref aL), (2, .int x2)] → W p l e (headSpec (w_S_endOfName) ({ frames := 2, cells := 0, slots := 0, locals := 40 })).room s m [.ref aL, .int p1].toArray below meth c H locs 0 0 (MQ below (va_Qi (fun (r : Int32) (_ : Unit) => r = o) (fun _ t => va_P (dC, dI) vwCl [(aL, .inr (1, [.ref aB, .int ln])), (aB, .inl (cB, 1024, .inl lb))] t.heap ∧ va_K (dC, dI) vwCl [(cB, .byte)] t ∧ va_D A [(aL, .inr (1, [.ref aB, .int ln])), (aB, .inl (cB, 1024, .inl lb))]) A) [.ref aL, .int p1].toArray s 0 0 A) (F0 m 2 ls []) := by
    intro n
    induction n with
    | zero => intro ln lb x2 H locs ls hf; exact absurd hf (by simp [f_S_endOfName_l2])
    | succ n ih =>
      intro ln lb x2 H locs ls hf hP hD hS hl
      rw [f_S_endOfName_l2] at hf
      refine lv_iload_n hx hb d_S_endOfName_2 rfl (lv_at hl 1 rfl) ?_
      refine lv_aload_n hx hb d_S_endOfName_3 rfl (lv_at hl 0 rfl) ?_
      obtain ⟨o_1, hM_1, hf⟩ := bd_some hf
      refine cr_i (va_runV (As := []) (rest := [.int x2]) ⟨hx, hb, hml, hown, hts⟩ (c_L_size l dC dI aL aB  H.size ln  o_1 hM_1) (cwV 0 hts (gwV wb_11 wb_13 wb_14 wb_6 wb_12) rfl rfl rfl (by decide +kernel) ⟨Nat.le_of_ble_eq_true rfl, Nat.le_of_ble_eq_true rfl⟩) (pr_V (hP.sub [0] rfl) (hD.sub [0] (by decide) rfl) hK hN [] rfl (ci := 1) rfl rfl rfl) rfl rfl hl.1 rfl (lv_room (Nat.le_of_ble_eq_true rfl)) d_S_endOfName_4 ⟨Nat.zero_le _, Nat.zero_le _⟩) hP hD hS hA (in_of [0] rfl) (fun r_1 H locs hw hP hS => ?_)
      subst r_1
      refine lv_icmp_ge (tgt := 27) hx hb d_S_endOfName_7 (by decide) (fun c_2 => ?_) (fun c_2 => ?_)
      · rw [if_pos c_2] at hf
        refine lv_iload_n hx hb d_S_endOfName_27 rfl (lv_at hl 1 rfl) ?_
        have ho := Option.some.inj hf
        subst o
        have hP9 := hP.sub (ws' := [(aL, .inr (1, [.ref aB, .int ln])), (aB, .inl (cB, 1024, .inl lb))]) [0, 1] rfl
        have hD9 := hD.sub (ws' := [(aL, .inr (1, [.ref aB, .int ln])), (aB, .inl (cB, 1024, .inl lb))]) [0, 1] (by decide) rfl
        exact W.iret (v := x2) hx hb hr (fun t ht hW => ⟨⟨x2, (), rfl, rfl, by rw [ht]; exact hP9, va_K.moved hW.alike hK, hD9⟩, hS.F ht⟩) hS.2.2 d_S_endOfName_28
      · rw [if_neg c_2] at hf
        refine lv_aload_n hx hb d_S_endOfName_10 rfl (lv_at hl 0 rfl) ?_
        refine lv_iload_n hx hb d_S_endOfName_11 rfl (lv_at hl 1 rfl) ?_
        obtain ⟨o_3, hM_3, hf⟩ := bd_some hf
        refine cr_i (va_runV (As := [.int x2]) (rest := []) ⟨hx, hb, hml, hown, hts⟩ (c_L_at l dC dI aL aB cB H.size ln lb x2 o_3 hM_3) (cwV 1 hts (gwV wb_15 wb_4 wb_5 wb_6 wb_3) rfl rfl rfl (by decide +kernel) ⟨Nat.le_of_ble_eq_true rfl, Nat.le_of_ble_eq_true rfl⟩) (pr_V (hP.sub [0, 1] rfl) (hD.sub [0, 1] (by decide) rfl) hK hN [0] rfl (ci := 1) rfl rfl rfl) rfl rfl hl.1 rfl (lv_room (Nat.le_of_ble_eq_true rfl)) d_S_endOfName_12 ⟨Nat.zero_le _, Nat.zero_le _⟩) hP hD hS hA (in_of [0, 1] rfl) (fun r_3 H locs hw hP hS => ?_)
        subst r_3
        obtain ⟨o_4, hM_4, hf⟩ := bd_some hf
        refine cr_i (va_runS (As := [.int o_3]) (rest := []) ⟨hx, hb, hml, hown, hts⟩ (c_S_isOfNames l dC dI   H.size  o_3 o_4 hM_4) (va_cwS 1 hts (gwS wb_16 wb_18 wb_10 wb_17) rfl rfl rfl (by decide +kernel) ⟨Nat.le_of_ble_eq_true rfl, Nat.le_of_ble_eq_true rfl⟩) (pr_S (hP.sub [] rfl) (hD.sub [] (by decide) rfl) hK hN [] rfl) rfl rfl hl.1 rfl (lv_room (Nat.le_of_ble_eq_true rfl)) d_S_endOfName_15 ⟨Nat.zero_le _, Nat.zero_le _⟩) hP hD hS hA (in_of [] rfl) (fun r_4 H locs hw hP hS => ?_)
        obtain ⟨hw, hz_4⟩ := hw
        subst r_4
        refine lv_if_eq (tgt := 27) hx hb d_S_endOfName_18 (by decide) (fun c_5 => ?_) (fun c_5 => ?_)
        · rw [if_pos c_5] at hf
          refine lv_iload_n hx hb d_S_endOfName_27 rfl (lv_at hl 1 rfl) ?_
          have ho := Option.some.inj hf
          subst o
          have hP9 := hP.sub (ws' := [(aL, .inr (1, [.ref aB, .int ln])), (aB, .inl (cB, 1024, .inl lb))]) [0, 1] rfl
          have hD9 := hD.sub (ws' := [(aL, .inr (1, [.ref aB, .int ln])), (aB, .inl (cB, 1024, .inl lb))]) [0, 1] (by decide) rfl
          exact W.iret (v := x2) hx hb hr (fun t ht hW => ⟨⟨x2, (), rfl, rfl, by rw [ht]; exact hP9, va_K.moved hW.alike hK, hD9⟩, hS.F ht⟩) hS.2.2 d_S_endOfName_28
        · rw [if_neg c_5] at hf
          refine lv_iinc (v := x2 + (1 : Int32)) (lv' := [(2, .int (x2 + (1 : Int32))), (0, .ref aL)]) hx hb d_S_endOfName_21 hl (k := 1) rfl rfl (by decide) rfl (fun ls hl => ?_)
          refine lv_goto (tgt := 2) hx hb d_S_endOfName_24 (by decide) ?_
          exact ih ln lb (x2 + (1 : Int32)) H locs ls hf (hP.sub (ws' := [(aL, .inr (1, [.ref aB, .int ln])), (aB, .inl (cB, 1024, .inl lb))]) [0, 1] rfl) (hD.sub (ws' := [(aL, .inr (1, [.ref aB, .int ln])), (aB, .inl (cB, 1024, .inl lb))]) [0, 1] (by decide) rfl) hS (lv_sub hl [1, 0] rfl)
  rw [f_S_endOfName] at hf
  refine lv_iload_n hx hb d_S_endOfName_0 rfl (lv_at hl 1 rfl) ?_
  refine lv_istore_n (lv' := [(2, .int p1), (0, .ref aL), (1, .int p1)]) hx hb d_S_endOfName_1 rfl hl (by decide) rfl (fun ls hl => ?_)
  exact loop_2 FU ln lb p1 s.heap [] ls hf (hP.sub (ws' := [(aL, .inr (1, [.ref aB, .int ln])), (aB, .inl (cB, 1024, .inl lb))]) [0, 1] rfl) (hD.sub (ws' := [(aL, .inr (1, [.ref aB, .int ln])), (aB, .inl (cB, 1024, .inl lb))]) [0, 1] (by decide) rfl) hS (lv_sub hl [1, 0] rfl)

def f_S_widthOfCharacter (ln : Int32) (lb : Nat → Int32) (p1 : Int32) (p2 : Int32) : Option (Int32) := (f_L_at ln lb p1).bind (fun o_1 => (f_S_isPrintable o_1).bind (fun o_2 => if o_2 = (0 : Int32) then some ((0 : Int32)) else if o_1 = p2 then some ((0 : Int32)) else if o_1 = (92 : Int32) then (f_L_at ln lb (p1 + (1 : Int32))).bind (fun o_6 => (f_S_isPrintable o_6).bind (fun o_7 => if o_7 = (0 : Int32) then some ((0 : Int32)) else some ((2 : Int32)))) else some ((1 : Int32))))
set_option maxHeartbeats 4000000 in
set_option maxRecDepth 100000 in
theorem c_S_widthOfCharacter (l : Launch) (dC : Nat → ClassId) (dI : Nat → Nat → Nat) (aL aB : Nat) (cB : ClassId) (sz : Nat) (ln : Int32) (lb : Nat → Int32) (p1 : Int32) (p2 : Int32) (o : Int32) (hf : f_S_widthOfCharacter ln lb p1 p2 = some o) : Met l y_S_widthOfCharacter (w_S_widthOfCharacter) ({ frames := 1, cells := 0, slots := 0, locals := 21 }) (va_Pc [.ref aL, .int p1, .int p2] (fun U => U.heap.size = sz ∧ va_P (dC, dI) vwCl [(aL, .inr (1, [.ref aB, .int ln])), (aB, .inl (cB, 1024, .inl lb))] U.heap ∧ va_K (dC, dI) vwCl [(cB, .byte)] U ∧ va_D (fun _ => True) [(aL, .inr (1, [.ref aB, .int ln])), (aB, .inl (cB, 1024, .inl lb))] ∧ NW U)) (va_Qi (fun (r : Int32) (_ : Unit) => r = o) (fun _ t => va_P (dC, dI) vwCl [(aL, .inr (1, [.ref aB, .int ln])), (aB, .inl (cB, 1024, .inl lb))] t.heap ∧ va_K (dC, dI) vwCl [(cB, .byte)] t ∧ va_D (va_A [(aL, .inr (1, [.ref aB, .int ln])), (aB, .inl (cB, 1024, .inl lb))] sz) [(aL, .inr (1, [.ref aB, .int ln])), (aB, .inl (cB, 1024, .inl lb))]) (va_A [(aL, .inr (1, [.ref aB, .int ln])), (aB, .inl (cB, 1024, .inl lb))] sz)) 0 0 (va_A [(aL, .inr (1, [.ref aB, .int ln])), (aB, .inl (cB, 1024, .inl lb))] sz) := by
  refine Met.ofW (cc := b_S_widthOfCharacter) (maxL := 4) (ret := (some .int)) (by decide) rfl ?_
  intro p e s m args below meth c s₁ B hml hv
  obtain ⟨rfl, hsz, hP, hK, hD0, hN⟩ := hv
  have hx := B.exec
  have hb := B.bytes
  have hr := B.returns
  have hts : ∀ w ∈ WB, w.before _ s = true := fun w h => atoms_spec (ws := w_S_widthOfCharacter) B.pre w (List.mem_cons_of_mem _ h)
  have hown : s.vm.findClass R_S = some m.cls := findClass_of_methodNamed B.named
  have hlocks := B.notSynchronized
  subst hsz
  have hD := hD0.self (sz := s.heap.size)
  generalize hAe : va_A [(aL, .inr (1, [.ref aB, .int ln])), (aB, .inl (cB, 1024, .inl lb))] s.heap.size = A at hD ⊢
  have hA : ∀ q : Nat, s.heap.size ≤ q → A q := fun q h => by rw [← hAe]; exact Or.inr h
  have hS : va_S A s.heap s.heap [] := va_S.rf
  have hP : va_P (dC, dI) vwCl [(aL, .inr (1, [.ref aB, .int ln])), (aB, .inl (cB, 1024, .inl lb))] s.heap := hP
  have hl := lv_entry [.ref aL, .int p1, .int p2] (n := 4) (Nat.le_of_ble_eq_true rfl)
  rw [lg_entry_eq]
  generalize (lg_sl [.ref aL, .int p1, .int p2] ++ List.replicate (4 - (lg_sl [.ref aL, .int p1, .int p2]).length) Slot.unset).toArray = ls at hl ⊢
  have hl : lv_has ls 4 [(0, .ref aL), (1, .int p1), (2, .int p2)] := hl
  rw [f_S_widthOfCharacter] at hf
  refine lv_aload_n hx hb d_S_widthOfCharacter_0 rfl (lv_at hl 0 rfl) ?_
  refine lv_iload_n hx hb d_S_widthOfCharacter_1 rfl (lv_at hl 1 rfl) ?_
  obtain ⟨o_1, hM_1, hf⟩ := bd_some hf
  refine cr_i (va_runV (As := [.int p1]) (rest := []) ⟨hx, hb, hml, hown, hts⟩ (c_L_at l dC dI aL aB cB s.heap.size ln lb p1 o_1 hM_1) (cwV 1 hts (gwV wb_15 wb_4 wb_5 wb_6 wb_3) rfl rfl rfl (by decide +kernel) ⟨Nat.le_of_ble_eq_true rfl, Nat.le_of_ble_eq_true rfl⟩) (pr_V (hP.sub [0, 1] rfl) (hD.sub [0, 1] (by decide) rfl) hK hN [0] rfl (ci := 1) rfl rfl rfl) rfl rfl hl.1 rfl (lv_room (Nat.le_of_ble_eq_true rfl)) d_S_widthOfCharacter_2 ⟨Nat.zero_le _, Nat.zero_le _⟩) hP hD hS hA (in_of [0, 1] rfl) (fun r_1 H locs hw hP hS => ?_)
  subst r_1
  refine lv_istore_n (lv' := [(3, .int o_1), (0, .ref aL), (1, .int p1), (2, .int p2)]) hx hb d_S_widthOfCharacter_5 rfl hl (by decide) rfl (fun ls hl => ?_)
  refine lv_iload_n hx hb d_S_widthOfCharacter_6 rfl (lv_at hl 0 rfl) ?_
  obtain ⟨o_2, hM_2, hf⟩ := bd_some hf
  refine cr_i (va_runS (As := [.int o_1]) (rest := []) ⟨hx, hb, hml, hown, hts⟩ (c_S_isPrintable l dC dI   H.size  o_1 o_2 hM_2) (va_cwS 1 hts (gwS wb_19 wb_21 wb_10 wb_20) rfl rfl rfl (by decide +kernel) ⟨Nat.le_of_ble_eq_true rfl, Nat.le_of_ble_eq_true rfl⟩) (pr_S (hP.sub [] rfl) (hD.sub [] (by decide) rfl) hK hN [] rfl) rfl rfl hl.1 rfl (lv_room (Nat.le_of_ble_eq_true rfl)) d_S_widthOfCharacter_7 ⟨Nat.zero_le _, Nat.zero_le _⟩) hP hD hS hA (in_of [] rfl) (fun r_2 H locs hw hP hS => ?_)
  obtain ⟨hw, hz_2⟩ := hw
  subst r_2
  refine lv_if_eq (tgt := 18) hx hb d_S_widthOfCharacter_10 (by decide) (fun c_3 => ?_) (fun c_3 => ?_)
  · rw [if_pos c_3] at hf
    refine lv_iconst (v := (0 : Int32)) hx hb d_S_widthOfCharacter_18 (by decide) ?_
    have ho := Option.some.inj hf
    subst o
    have hP9 := hP.sub (ws' := [(aL, .inr (1, [.ref aB, .int ln])), (aB, .inl (cB, 1024, .inl lb))]) [0, 1] rfl
    have hD9 := hD.sub (ws' := [(aL, .inr (1, [.ref aB, .int ln])), (aB, .inl (cB, 1024, .inl lb))]) [0, 1] (by decide) rfl
    exact W.iret (v := (0 : Int32)) hx hb hr (fun t ht hW => ⟨⟨(0 : Int32), (), rfl, rfl, by rw [ht]; exact hP9, va_K.moved hW.alike hK, hD9⟩, hS.F ht⟩) hS.2.2 d_S_widthOfCharacter_19
  · rw [if_neg c_3] at hf
    refine lv_iload_n hx hb d_S_widthOfCharacter_13 rfl (lv_at hl 0 rfl) ?_
    refine lv_iload_n hx hb d_S_widthOfCharacter_14 rfl (lv_at hl 3 rfl) ?_
    refine lv_icmp_ne (tgt := 20) hx hb d_S_widthOfCharacter_15 (by decide) (fun c_4 => ?_) (fun c_4 => ?_)
    · rw [if_neg c_4] at hf
      refine lv_iload_n hx hb d_S_widthOfCharacter_20 rfl (lv_at hl 0 rfl) ?_
      refine lv_bipush (v := (92 : Int32)) hx hb d_S_widthOfCharacter_21 (by decide) ?_
      refine lv_icmp_eq (tgt := 28) hx hb d_S_widthOfCharacter_23 (by decide) (fun c_5 => ?_) (fun c_5 => ?_)
      · rw [if_pos c_5] at hf
        refine lv_aload_n hx hb d_S_widthOfCharacter_28 rfl (lv_at hl 1 rfl) ?_
        refine lv_iload_n hx hb d_S_widthOfCharacter_29 rfl (lv_at hl 2 rfl) ?_
        refine lv_iconst (v := (1 : Int32)) hx hb d_S_widthOfCharacter_30 (by decide) ?_
        refine lv_iadd hx hb d_S_widthOfCharacter_31 ?_
        obtain ⟨o_6, hM_6, hf⟩ := bd_some hf
        refine cr_i (va_runV (As := [.int (p1 + (1 : Int32))]) (rest := []) ⟨hx, hb, hml, hown, hts⟩ (c_L_at l dC dI aL aB cB H.size ln lb (p1 + (1 : Int32)) o_6 hM_6) (cwV 1 hts (gwV wb_15 wb_4 wb_5 wb_6 wb_3) rfl rfl rfl (by decide +kernel) ⟨Nat.le_of_ble_eq_true rfl, Nat.le_of_ble_eq_true rfl⟩) (pr_V (hP.sub [0, 1] rfl) (hD.sub [0, 1] (by decide) rfl) hK hN [0] rfl (ci := 1) rfl rfl rfl) rfl rfl hl.1 rfl (lv_room (Nat.le_of_ble_eq_true rfl)) d_S_widthOfCharacter_32 ⟨Nat.zero_le _, Nat.zero_le _⟩) hP hD hS hA (in_of [0, 1] rfl) (fun r_6 H locs hw hP hS => ?_)
        subst r_6
        obtain ⟨o_7, hM_7, hf⟩ := bd_some hf
        refine cr_i (va_runS (As := [.int o_6]) (rest := []) ⟨hx, hb, hml, hown, hts⟩ (c_S_isPrintable l dC dI   H.size  o_6 o_7 hM_7) (va_cwS 1 hts (gwS wb_19 wb_21 wb_10 wb_20) rfl rfl rfl (by decide +kernel) ⟨Nat.le_of_ble_eq_true rfl, Nat.le_of_ble_eq_true rfl⟩) (pr_S (hP.sub [] rfl) (hD.sub [] (by decide) rfl) hK hN [] rfl) rfl rfl hl.1 rfl (lv_room (Nat.le_of_ble_eq_true rfl)) d_S_widthOfCharacter_35 ⟨Nat.zero_le _, Nat.zero_le _⟩) hP hD hS hA (in_of [] rfl) (fun r_7 H locs hw hP hS => ?_)
        obtain ⟨hw, hz_7⟩ := hw
        subst r_7
        refine lv_if_eq (tgt := 45) hx hb d_S_widthOfCharacter_38 (by decide) (fun c_8 => ?_) (fun c_8 => ?_)
        · rw [if_pos c_8] at hf
          refine lv_iconst (v := (0 : Int32)) hx hb d_S_widthOfCharacter_45 (by decide) ?_
          have ho := Option.some.inj hf
          subst o
          have hP9 := hP.sub (ws' := [(aL, .inr (1, [.ref aB, .int ln])), (aB, .inl (cB, 1024, .inl lb))]) [0, 1] rfl
          have hD9 := hD.sub (ws' := [(aL, .inr (1, [.ref aB, .int ln])), (aB, .inl (cB, 1024, .inl lb))]) [0, 1] (by decide) rfl
          exact W.iret (v := (0 : Int32)) hx hb hr (fun t ht hW => ⟨⟨(0 : Int32), (), rfl, rfl, by rw [ht]; exact hP9, va_K.moved hW.alike hK, hD9⟩, hS.F ht⟩) hS.2.2 d_S_widthOfCharacter_46
        · rw [if_neg c_8] at hf
          refine lv_iconst (v := (2 : Int32)) hx hb d_S_widthOfCharacter_41 (by decide) ?_
          refine lv_goto (tgt := 46) hx hb d_S_widthOfCharacter_42 (by decide) ?_
          have ho := Option.some.inj hf
          subst o
          have hP9 := hP.sub (ws' := [(aL, .inr (1, [.ref aB, .int ln])), (aB, .inl (cB, 1024, .inl lb))]) [0, 1] rfl
          have hD9 := hD.sub (ws' := [(aL, .inr (1, [.ref aB, .int ln])), (aB, .inl (cB, 1024, .inl lb))]) [0, 1] (by decide) rfl
          exact W.iret (v := (2 : Int32)) hx hb hr (fun t ht hW => ⟨⟨(2 : Int32), (), rfl, rfl, by rw [ht]; exact hP9, va_K.moved hW.alike hK, hD9⟩, hS.F ht⟩) hS.2.2 d_S_widthOfCharacter_46
      · rw [if_neg c_5] at hf
        refine lv_iconst (v := (1 : Int32)) hx hb d_S_widthOfCharacter_26 (by decide) ?_
        have ho := Option.some.inj hf
        subst o
        have hP9 := hP.sub (ws' := [(aL, .inr (1, [.ref aB, .int ln])), (aB, .inl (cB, 1024, .inl lb))]) [0, 1] rfl
        have hD9 := hD.sub (ws' := [(aL, .inr (1, [.ref aB, .int ln])), (aB, .inl (cB, 1024, .inl lb))]) [0, 1] (by decide) rfl
        exact W.iret (v := (1 : Int32)) hx hb hr (fun t ht hW => ⟨⟨(1 : Int32), (), rfl, rfl, by rw [ht]; exact hP9, va_K.moved hW.alike hK, hD9⟩, hS.F ht⟩) hS.2.2 d_S_widthOfCharacter_27
    · rw [if_pos c_4] at hf
      refine lv_iconst (v := (0 : Int32)) hx hb d_S_widthOfCharacter_18 (by decide) ?_
      have ho := Option.some.inj hf
      subst o
      have hP9 := hP.sub (ws' := [(aL, .inr (1, [.ref aB, .int ln])), (aB, .inl (cB, 1024, .inl lb))]) [0, 1] rfl
      have hD9 := hD.sub (ws' := [(aL, .inr (1, [.ref aB, .int ln])), (aB, .inl (cB, 1024, .inl lb))]) [0, 1] (by decide) rfl
      exact W.iret (v := (0 : Int32)) hx hb hr (fun t ht hW => ⟨⟨(0 : Int32), (), rfl, rfl, by rw [ht]; exact hP9, va_K.moved hW.alike hK, hD9⟩, hS.F ht⟩) hS.2.2 d_S_widthOfCharacter_19

def f_S_worthOfEscape (p0 : Int32) : Option (Int32) := if p0 = (48 : Int32) then some ((0 : Int32)) else (if p0 = (110 : Int32) then some ((10 : Int32)) else (if p0 = (116 : Int32) then some ((9 : Int32)) else (some (p0))))
set_option maxHeartbeats 4000000 in
set_option maxRecDepth 100000 in
theorem c_S_worthOfEscape (l : Launch) (dC : Nat → ClassId) (dI : Nat → Nat → Nat) (sz : Nat) (p0 : Int32) (o : Int32) (hf : f_S_worthOfEscape p0 = some o) : Met l y_S_worthOfEscape (w_S_worthOfEscape) ({ frames := 0, cells := 0, slots := 0, locals := 0 }) (va_Pc [.int p0] (fun U => U.heap.size = sz ∧ va_P (dC, dI) vwCl [] U.heap ∧ va_K (dC, dI) vwCl [] U ∧ va_D (fun _ => True) [] ∧ NW U)) (va_Qi (fun (r : Int32) (_ : Unit) => r = o) (fun _ t => va_P (dC, dI) vwCl [] t.heap ∧ va_K (dC, dI) vwCl [] t ∧ va_D (va_A [] sz) []) (va_A [] sz)) 0 0 (va_A [] sz) := by
  refine Met.ofW (cc := b_S_worthOfEscape) (maxL := 1) (ret := (some .int)) (by decide) rfl ?_
  intro p e s m args below meth c s₁ B hml hv
  obtain ⟨rfl, hsz, hP, hK, hD0, hN⟩ := hv
  have hx := B.exec
  have hb := B.bytes
  have hr := B.returns
  have hts : ∀ w ∈ WB, w.before _ s = true := fun w h => atoms_spec (ws := w_S_worthOfEscape) B.pre w (List.mem_cons_of_mem _ h)
  have hown : s.vm.findClass R_S = some m.cls := findClass_of_methodNamed B.named
  have hlocks := B.notSynchronized
  subst hsz
  have hD := hD0.self (sz := s.heap.size)
  generalize hAe : va_A [] s.heap.size = A at hD ⊢
  have hA : ∀ q : Nat, s.heap.size ≤ q → A q := fun q h => by rw [← hAe]; exact Or.inr h
  have hS : va_S A s.heap s.heap [] := va_S.rf
  have hP : va_P (dC, dI) vwCl [] s.heap := hP
  have hl := lv_entry [.int p0] (n := 1) (Nat.le_of_ble_eq_true rfl)
  rw [lg_entry_eq]
  generalize (lg_sl [.int p0] ++ List.replicate (1 - (lg_sl [.int p0]).length) Slot.unset).toArray = ls at hl ⊢
  have hl : lv_has ls 1 [(0, .int p0)] := hl
  rw [f_S_worthOfEscape] at hf
  refine lv_iload_n hx hb d_S_worthOfEscape_0 rfl (lv_at hl 0 rfl) ?_
  by_cases c_1 : p0 = (48 : Int32)
  · rw [if_pos c_1] at hf
    refine lv_lookup (off := 41) (tgt := 42) hx hb d_S_worthOfEscape_1 (by decide) (by rw [c_1]; first | done | rfl | decide) (by decide) ?_
    refine lv_iconst (v := (0 : Int32)) hx hb d_S_worthOfEscape_42 (by decide) ?_
    have ho := Option.some.inj hf
    subst o
    have hP9 := hP.sub (ws' := []) [] rfl
    have hD9 := hD.sub (ws' := []) [] (by decide) rfl
    exact W.iret (v := (0 : Int32)) hx hb hr (fun t ht hW => ⟨⟨(0 : Int32), (), rfl, rfl, by rw [ht]; exact hP9, va_K.moved hW.alike hK, hD9⟩, hS.F ht⟩) hS.2.2 d_S_worthOfEscape_43
  rw [if_neg c_1] at hf
  by_cases c_2 : p0 = (110 : Int32)
  · rw [if_pos c_2] at hf
    refine lv_lookup (off := 35) (tgt := 36) hx hb d_S_worthOfEscape_1 (by decide) (by rw [c_2]; first | done | rfl | decide) (by decide) ?_
    refine lv_bipush (v := (10 : Int32)) hx hb d_S_worthOfEscape_36 (by decide) ?_
    have ho := Option.some.inj hf
    subst o
    have hP9 := hP.sub (ws' := []) [] rfl
    have hD9 := hD.sub (ws' := []) [] (by decide) rfl
    exact W.iret (v := (10 : Int32)) hx hb hr (fun t ht hW => ⟨⟨(10 : Int32), (), rfl, rfl, by rw [ht]; exact hP9, va_K.moved hW.alike hK, hD9⟩, hS.F ht⟩) hS.2.2 d_S_worthOfEscape_38
  rw [if_neg c_2] at hf
  by_cases c_3 : p0 = (116 : Int32)
  · rw [if_pos c_3] at hf
    refine lv_lookup (off := 38) (tgt := 39) hx hb d_S_worthOfEscape_1 (by decide) (by rw [c_3]; first | done | rfl | decide) (by decide) ?_
    refine lv_bipush (v := (9 : Int32)) hx hb d_S_worthOfEscape_39 (by decide) ?_
    have ho := Option.some.inj hf
    subst o
    have hP9 := hP.sub (ws' := []) [] rfl
    have hD9 := hD.sub (ws' := []) [] (by decide) rfl
    exact W.iret (v := (9 : Int32)) hx hb hr (fun t ht hW => ⟨⟨(9 : Int32), (), rfl, rfl, by rw [ht]; exact hP9, va_K.moved hW.alike hK, hD9⟩, hS.F ht⟩) hS.2.2 d_S_worthOfEscape_41
  rw [if_neg c_3] at hf
  refine lv_lookup (off := 43) (tgt := 44) hx hb d_S_worthOfEscape_1 (by decide) (by rw [lv_osw c_1 (by decide), lv_osw c_2 (by decide), lv_osw c_3 (by decide)]; first | done | rfl) (by decide) ?_
  refine lv_iload_n hx hb d_S_worthOfEscape_44 rfl (lv_at hl 0 rfl) ?_
  have ho := Option.some.inj hf
  subst o
  have hP9 := hP.sub (ws' := []) [] rfl
  have hD9 := hD.sub (ws' := []) [] (by decide) rfl
  exact W.iret (v := p0) hx hb hr (fun t ht hW => ⟨⟨p0, (), rfl, rfl, by rw [ht]; exact hP9, va_K.moved hW.alike hK, hD9⟩, hS.F ht⟩) hS.2.2 d_S_worthOfEscape_45

def f_S_endOfCharacters_l5 : Nat → Int32 → (Nat → Int32) → Int32 → Int32 → Int32 → Option (Int32)
  | 0, _, _, _, _, _ => none
  | n + 1, ln, lb, x2, x3, x4 => if (1024 : Int32) ≤ x4 then some (x3) else (f_S_widthOfCharacter ln lb x3 x2).bind (fun o_2 => if o_2 = (0 : Int32) then some (x3) else f_S_endOfCharacters_l5 n ln lb x2 (x3 + o_2) (x4 + (1 : Int32)))
def f_S_endOfCharacters (ln : Int32) (lb : Nat → Int32) (p1 : Int32) (p2 : Int32) : Option (Int32) := f_S_endOfCharacters_l5 FU ln lb p2 p1 (0 : Int32)
set_option maxHeartbeats 4000000 in
set_option maxRecDepth 100000 in
theorem c_S_endOfCharacters (l : Launch) (dC : Nat → ClassId) (dI : Nat → Nat → Nat) (aL aB : Nat) (cB : ClassId) (sz : Nat) (ln : Int32) (lb : Nat → Int32) (p1 : Int32) (p2 : Int32) (o : Int32) (hf : f_S_endOfCharacters ln lb p1 p2 = some o) : Met l y_S_endOfCharacters (w_S_endOfCharacters) ({ frames := 2, cells := 0, slots := 0, locals := 44 }) (va_Pc [.ref aL, .int p1, .int p2] (fun U => U.heap.size = sz ∧ va_P (dC, dI) vwCl [(aL, .inr (1, [.ref aB, .int ln])), (aB, .inl (cB, 1024, .inl lb))] U.heap ∧ va_K (dC, dI) vwCl [(cB, .byte)] U ∧ va_D (fun _ => True) [(aL, .inr (1, [.ref aB, .int ln])), (aB, .inl (cB, 1024, .inl lb))] ∧ NW U)) (va_Qi (fun (r : Int32) (_ : Unit) => r = o) (fun _ t => va_P (dC, dI) vwCl [(aL, .inr (1, [.ref aB, .int ln])), (aB, .inl (cB, 1024, .inl lb))] t.heap ∧ va_K (dC, dI) vwCl [(cB, .byte)] t ∧ va_D (va_A [(aL, .inr (1, [.ref aB, .int ln])), (aB, .inl (cB, 1024, .inl lb))] sz) [(aL, .inr (1, [.ref aB, .int ln])), (aB, .inl (cB, 1024, .inl lb))]) (va_A [(aL, .inr (1, [.ref aB, .int ln])), (aB, .inl (cB, 1024, .inl lb))] sz)) 0 0 (va_A [(aL, .inr (1, [.ref aB, .int ln])), (aB, .inl (cB, 1024, .inl lb))] sz) := by
  refine Met.ofW (cc := b_S_endOfCharacters) (maxL := 6) (ret := (some .int)) (by decide) rfl ?_
  intro p e s m args below meth c s₁ B hml hv
  obtain ⟨rfl, hsz, hP, hK, hD0, hN⟩ := hv
  have hx := B.exec
  have hb := B.bytes
  have hr := B.returns
  have hts : ∀ w ∈ WB, w.before _ s = true := fun w h => atoms_spec (ws := w_S_endOfCharacters) B.pre w (List.mem_cons_of_mem _ h)
  have hown : s.vm.findClass R_S = some m.cls := findClass_of_methodNamed B.named
  have hlocks := B.notSynchronized
  subst hsz
  have hD := hD0.self (sz := s.heap.size)
  generalize hAe : va_A [(aL, .inr (1, [.ref aB, .int ln])), (aB, .inl (cB, 1024, .inl lb))] s.heap.size = A at hD ⊢
  have hA : ∀ q : Nat, s.heap.size ≤ q → A q := fun q h => by rw [← hAe]; exact Or.inr h
  have hS : va_S A s.heap s.heap [] := va_S.rf
  have hP : va_P (dC, dI) vwCl [(aL, .inr (1, [.ref aB, .int ln])), (aB, .inl (cB, 1024, .inl lb))] s.heap := hP
  have hl := lv_entry [.ref aL, .int p1, .int p2] (n := 6) (Nat.le_of_ble_eq_true rfl)
  rw [lg_entry_eq]
  generalize (lg_sl [.ref aL, .int p1, .int p2] ++ List.replicate (6 - (lg_sl [.ref aL, .int p1, .int p2]).length) Slot.unset).toArray = ls at hl ⊢
  have hl : lv_has ls 6 [(0, .ref aL), (1, .int p1), (2, .int p2)] := hl
  have loop_5 : ∀ (n : Nat) (ln : Int32) (lb : Nat → Int32) (x2 : Int32) (x3 : Int32) (x4 : Int32) (H : Heap) (locs : List Loc) (ls : Array Slot), f_S_endOfCharacters_l5 n ln lb x2 x3 x4 = some o → va_P (dC, dI) vwCl [(aL, .inr (1, [.ref aB, .int ln])), (aB, .inl (cB, 1024, .inl lb))] H → va_D A [(aL, .inr (1, [.ref aB, .int ln])), (aB, .inl (cB, 1024, .inl lb))] → va_S A s.heap H locs → lv_has ls 6 [(0, .ref aL), (2, .int x2), (3, .int x3), (4, .int x4)] → W p l e (headSpec (w_S_endOfCharacters) ({ frames := 2, cells := 0, slots := 0, locals := 44 })).room s m [.ref aL, .int p1, .int p2].toArray below meth c H locs 0 0 (MQ below (va_Qi (fun (r : Int32) (_ : Unit) => r = o) (fun _ t => va_P (dC, dI) vwCl [(aL, .inr (1, [.ref aB, .int ln])), (aB, .inl (cB, 1024, .inl lb))] t.heap ∧ va_K (dC, dI) vwCl [(cB, .byte)] t ∧ va_D A [(aL, .inr (1, [.ref aB, .int ln])), (aB, .inl (cB, 1024, .inl lb))]) A) [.ref aL, .int p1, .int p2].toArray s 0 0 A) (F0 m 5 ls []) := by
    intro n
    induction n with
    | zero => intro ln lb x2 x3 x4 H locs ls hf; exact absurd hf (by simp [f_S_endOfCharacters_l5])
    | succ n ih =>
      intro ln lb x2 x3 x4 H locs ls hf hP hD hS hl
      rw [f_S_endOfCharacters_l5] at hf
      refine lv_iload hx hb d_S_endOfCharacters_5 (lv_at hl 3 rfl) ?_
      refine lv_sipush (v := (1024 : Int32)) hx hb d_S_endOfCharacters_7 (by decide) ?_
      refine lv_icmp_ge (tgt := 39) hx hb d_S_endOfCharacters_10 (by decide) (fun c_1 => ?_) (fun c_1 => ?_)
      · rw [if_pos c_1] at hf
        refine lv_iload_n hx hb d_S_endOfCharacters_39 rfl (lv_at hl 2 rfl) ?_
        have ho := Option.some.inj hf
        subst o
        have hP9 := hP.sub (ws' := [(aL, .inr (1, [.ref aB, .int ln])), (aB, .inl (cB, 1024, .inl lb))]) [0, 1] rfl
        have hD9 := hD.sub (ws' := [(aL, .inr (1, [.ref aB, .int ln])), (aB, .inl (cB, 1024, .inl lb))]) [0, 1] (by decide) rfl
        exact W.iret (v := x3) hx hb hr (fun t ht hW => ⟨⟨x3, (), rfl, rfl, by rw [ht]; exact hP9, va_K.moved hW.alike hK, hD9⟩, hS.F ht⟩) hS.2.2 d_S_endOfCharacters_40
      · rw [if_neg c_1] at hf
        refine lv_aload_n hx hb d_S_endOfCharacters_13 rfl (lv_at hl 0 rfl) ?_
        refine lv_iload_n hx hb d_S_endOfCharacters_14 rfl (lv_at hl 2 rfl) ?_
        refine lv_iload_n hx hb d_S_endOfCharacters_15 rfl (lv_at hl 1 rfl) ?_
        obtain ⟨o_2, hM_2, hf⟩ := bd_some hf
        refine cr_i (va_runS (As := [.ref aL, .int x3, .int x2]) (rest := []) ⟨hx, hb, hml, hown, hts⟩ (c_S_widthOfCharacter l dC dI aL aB cB H.size ln lb x3 x2 o_2 hM_2) (va_cwS 3 hts (gwS wb_22 wb_24 wb_10 wb_23) rfl rfl rfl (by decide +kernel) ⟨Nat.le_of_ble_eq_true rfl, Nat.le_of_ble_eq_true rfl⟩) (pr_S (hP.sub [0, 1] rfl) (hD.sub [0, 1] (by decide) rfl) hK hN [0] rfl) rfl rfl hl.1 rfl (lv_room (Nat.le_of_ble_eq_true rfl)) d_S_endOfCharacters_16 ⟨Nat.zero_le _, Nat.zero_le _⟩) hP hD hS hA (in_of [0, 1] rfl) (fun r_2 H locs hw hP hS => ?_)
        subst r_2
        refine lv_istore (lv' := [(5, .int o_2), (0, .ref aL), (2, .int x2), (3, .int x3), (4, .int x4)]) hx hb d_S_endOfCharacters_19 hl (by decide) rfl (fun ls hl => ?_)
        refine lv_iload hx hb d_S_endOfCharacters_21 (lv_at hl 0 rfl) ?_
        refine lv_if_ne (tgt := 28) hx hb d_S_endOfCharacters_23 (by decide) (fun c_3 => ?_) (fun c_3 => ?_)
        · rw [if_neg c_3] at hf
          refine lv_iload_n hx hb d_S_endOfCharacters_28 rfl (lv_at hl 3 rfl) ?_
          refine lv_iload hx hb d_S_endOfCharacters_29 (lv_at hl 0 rfl) ?_
          refine lv_iadd hx hb d_S_endOfCharacters_31 ?_
          refine lv_istore_n (lv' := [(3, .int (x3 + o_2)), (5, .int o_2), (0, .ref aL), (2, .int x2), (4, .int x4)]) hx hb d_S_endOfCharacters_32 rfl hl (by decide) rfl (fun ls hl => ?_)
          refine lv_iinc (v := x4 + (1 : Int32)) (lv' := [(4, .int (x4 + (1 : Int32))), (3, .int (x3 + o_2)), (5, .int o_2), (0, .ref aL), (2, .int x2)]) hx hb d_S_endOfCharacters_33 hl (k := 4) rfl rfl (by decide) rfl (fun ls hl => ?_)
          refine lv_goto (tgt := 5) hx hb d_S_endOfCharacters_36 (by decide) ?_
          exact ih ln lb x2 (x3 + o_2) (x4 + (1 : Int32)) H locs ls hf (hP.sub (ws' := [(aL, .inr (1, [.ref aB, .int ln])), (aB, .inl (cB, 1024, .inl lb))]) [0, 1] rfl) (hD.sub (ws' := [(aL, .inr (1, [.ref aB, .int ln])), (aB, .inl (cB, 1024, .inl lb))]) [0, 1] (by decide) rfl) hS (lv_sub hl [3, 4, 1, 0] rfl)
        · rw [if_pos c_3] at hf
          refine lv_iload_n hx hb d_S_endOfCharacters_26 rfl (lv_at hl 3 rfl) ?_
          have ho := Option.some.inj hf
          subst o
          have hP9 := hP.sub (ws' := [(aL, .inr (1, [.ref aB, .int ln])), (aB, .inl (cB, 1024, .inl lb))]) [0, 1] rfl
          have hD9 := hD.sub (ws' := [(aL, .inr (1, [.ref aB, .int ln])), (aB, .inl (cB, 1024, .inl lb))]) [0, 1] (by decide) rfl
          exact W.iret (v := x3) hx hb hr (fun t ht hW => ⟨⟨x3, (), rfl, rfl, by rw [ht]; exact hP9, va_K.moved hW.alike hK, hD9⟩, hS.F ht⟩) hS.2.2 d_S_endOfCharacters_27
  rw [f_S_endOfCharacters] at hf
  refine lv_iload_n hx hb d_S_endOfCharacters_0 rfl (lv_at hl 1 rfl) ?_
  refine lv_istore_n (lv' := [(3, .int p1), (0, .ref aL), (1, .int p1), (2, .int p2)]) hx hb d_S_endOfCharacters_1 rfl hl (by decide) rfl (fun ls hl => ?_)
  refine lv_iconst (v := (0 : Int32)) hx hb d_S_endOfCharacters_2 (by decide) ?_
  refine lv_istore (lv' := [(4, .int (0 : Int32)), (3, .int p1), (0, .ref aL), (1, .int p1), (2, .int p2)]) hx hb d_S_endOfCharacters_3 hl (by decide) rfl (fun ls hl => ?_)
  exact loop_5 FU ln lb p2 p1 (0 : Int32) s.heap [] ls hf (hP.sub (ws' := [(aL, .inr (1, [.ref aB, .int ln])), (aB, .inl (cB, 1024, .inl lb))]) [0, 1] rfl) (hD.sub (ws' := [(aL, .inr (1, [.ref aB, .int ln])), (aB, .inl (cB, 1024, .inl lb))]) [0, 1] (by decide) rfl) hS (lv_sub hl [2, 4, 1, 0] rfl)

def f_S_widthOfSign (ln : Int32) (lb : Nat → Int32) (p1 : Int32) : Option (Int32) := (f_L_at ln lb p1).bind (fun o_1 => if o_1 = (36 : Int32) then some ((1 : Int32)) else (if o_1 = (37 : Int32) then some ((1 : Int32)) else (if o_1 = (38 : Int32) then some ((1 : Int32)) else (if o_1 = (40 : Int32) then some ((1 : Int32)) else (if o_1 = (41 : Int32) then some ((1 : Int32)) else (if o_1 = (42 : Int32) then some ((1 : Int32)) else (if o_1 = (43 : Int32) then some ((1 : Int32)) else (if o_1 = (44 : Int32) then some ((1 : Int32)) else (if o_1 = (45 : Int32) then some ((1 : Int32)) else (if o_1 = (47 : Int32) then some ((1 : Int32)) else (if o_1 = (58 : Int32) then some ((1 : Int32)) else (if o_1 = (60 : Int32) then (f_L_at ln lb (p1 + (1 : Int32))).bind (fun o_14 => if o_14 = o_1 then some ((2 : Int32)) else some ((0 : Int32))) else (if o_1 = (62 : Int32) then (f_L_at ln lb (p1 + (1 : Int32))).bind (fun o_17 => if o_17 = o_1 then some ((2 : Int32)) else some ((0 : Int32))) else (if o_1 = (91 : Int32) then some ((1 : Int32)) else (if o_1 = (93 : Int32) then some ((1 : Int32)) else (if o_1 = (94 : Int32) then some ((1 : Int32)) else (if o_1 = (124 : Int32) then some ((1 : Int32)) else (if o_1 = (126 : Int32) then some ((1 : Int32)) else (some ((0 : Int32)))))))))))))))))))))
set_option maxHeartbeats 4000000 in
set_option maxRecDepth 100000 in
theorem c_S_widthOfSign (l : Launch) (dC : Nat → ClassId) (dI : Nat → Nat → Nat) (aL aB : Nat) (cB : ClassId) (sz : Nat) (ln : Int32) (lb : Nat → Int32) (p1 : Int32) (o : Int32) (hf : f_S_widthOfSign ln lb p1 = some o) : Met l y_S_widthOfSign (w_S_widthOfSign) ({ frames := 1, cells := 0, slots := 0, locals := 21 }) (va_Pc [.ref aL, .int p1] (fun U => U.heap.size = sz ∧ va_P (dC, dI) vwCl [(aL, .inr (1, [.ref aB, .int ln])), (aB, .inl (cB, 1024, .inl lb))] U.heap ∧ va_K (dC, dI) vwCl [(cB, .byte)] U ∧ va_D (fun _ => True) [(aL, .inr (1, [.ref aB, .int ln])), (aB, .inl (cB, 1024, .inl lb))] ∧ NW U)) (va_Qi (fun (r : Int32) (_ : Unit) => r = o) (fun _ t => va_P (dC, dI) vwCl [(aL, .inr (1, [.ref aB, .int ln])), (aB, .inl (cB, 1024, .inl lb))] t.heap ∧ va_K (dC, dI) vwCl [(cB, .byte)] t ∧ va_D (va_A [(aL, .inr (1, [.ref aB, .int ln])), (aB, .inl (cB, 1024, .inl lb))] sz) [(aL, .inr (1, [.ref aB, .int ln])), (aB, .inl (cB, 1024, .inl lb))]) (va_A [(aL, .inr (1, [.ref aB, .int ln])), (aB, .inl (cB, 1024, .inl lb))] sz)) 0 0 (va_A [(aL, .inr (1, [.ref aB, .int ln])), (aB, .inl (cB, 1024, .inl lb))] sz) := by
  refine Met.ofW (cc := b_S_widthOfSign) (maxL := 3) (ret := (some .int)) (by decide) rfl ?_
  intro p e s m args below meth c s₁ B hml hv
  obtain ⟨rfl, hsz, hP, hK, hD0, hN⟩ := hv
  have hx := B.exec
  have hb := B.bytes
  have hr := B.returns
  have hts : ∀ w ∈ WB, w.before _ s = true := fun w h => atoms_spec (ws := w_S_widthOfSign) B.pre w (List.mem_cons_of_mem _ h)
  have hown : s.vm.findClass R_S = some m.cls := findClass_of_methodNamed B.named
  have hlocks := B.notSynchronized
  subst hsz
  have hD := hD0.self (sz := s.heap.size)
  generalize hAe : va_A [(aL, .inr (1, [.ref aB, .int ln])), (aB, .inl (cB, 1024, .inl lb))] s.heap.size = A at hD ⊢
  have hA : ∀ q : Nat, s.heap.size ≤ q → A q := fun q h => by rw [← hAe]; exact Or.inr h
  have hS : va_S A s.heap s.heap [] := va_S.rf
  have hP : va_P (dC, dI) vwCl [(aL, .inr (1, [.ref aB, .int ln])), (aB, .inl (cB, 1024, .inl lb))] s.heap := hP
  have hl := lv_entry [.ref aL, .int p1] (n := 3) (Nat.le_of_ble_eq_true rfl)
  rw [lg_entry_eq]
  generalize (lg_sl [.ref aL, .int p1] ++ List.replicate (3 - (lg_sl [.ref aL, .int p1]).length) Slot.unset).toArray = ls at hl ⊢
  have hl : lv_has ls 3 [(0, .ref aL), (1, .int p1)] := hl
  rw [f_S_widthOfSign] at hf
  refine lv_aload_n hx hb d_S_widthOfSign_0 rfl (lv_at hl 0 rfl) ?_
  refine lv_iload_n hx hb d_S_widthOfSign_1 rfl (lv_at hl 1 rfl) ?_
  obtain ⟨o_1, hM_1, hf⟩ := bd_some hf
  refine cr_i (va_runV (As := [.int p1]) (rest := []) ⟨hx, hb, hml, hown, hts⟩ (c_L_at l dC dI aL aB cB s.heap.size ln lb p1 o_1 hM_1) (cwV 1 hts (gwV wb_15 wb_4 wb_5 wb_6 wb_3) rfl rfl rfl (by decide +kernel) ⟨Nat.le_of_ble_eq_true rfl, Nat.le_of_ble_eq_true rfl⟩) (pr_V (hP.sub [0, 1] rfl) (hD.sub [0, 1] (by decide) rfl) hK hN [0] rfl (ci := 1) rfl rfl rfl) rfl rfl hl.1 rfl (lv_room (Nat.le_of_ble_eq_true rfl)) d_S_widthOfSign_2 ⟨Nat.zero_le _, Nat.zero_le _⟩) hP hD hS hA (in_of [0, 1] rfl) (fun r_1 H locs hw hP hS => ?_)
  subst r_1
  refine lv_istore_n (lv' := [(2, .int o_1), (0, .ref aL), (1, .int p1)]) hx hb d_S_widthOfSign_5 rfl hl (by decide) rfl (fun ls hl => ?_)
  refine lv_iload_n hx hb d_S_widthOfSign_6 rfl (lv_at hl 0 rfl) ?_
  by_cases c_2 : o_1 = (36 : Int32)
  · rw [if_pos c_2] at hf
    refine lv_lookup (off := 153) (tgt := 160) hx hb d_S_widthOfSign_7 (by decide) (by rw [c_2]; first | done | rfl | decide) (by decide) ?_
    refine lv_iconst (v := (1 : Int32)) hx hb d_S_widthOfSign_160 (by decide) ?_
    have ho := Option.some.inj hf
    subst o
    have hP9 := hP.sub (ws' := [(aL, .inr (1, [.ref aB, .int ln])), (aB, .inl (cB, 1024, .inl lb))]) [0, 1] rfl
    have hD9 := hD.sub (ws' := [(aL, .inr (1, [.ref aB, .int ln])), (aB, .inl (cB, 1024, .inl lb))]) [0, 1] (by decide) rfl
    exact W.iret (v := (1 : Int32)) hx hb hr (fun t ht hW => ⟨⟨(1 : Int32), (), rfl, rfl, by rw [ht]; exact hP9, va_K.moved hW.alike hK, hD9⟩, hS.F ht⟩) hS.2.2 d_S_widthOfSign_161
  rw [if_neg c_2] at hf
  by_cases c_3 : o_1 = (37 : Int32)
  · rw [if_pos c_3] at hf
    refine lv_lookup (off := 153) (tgt := 160) hx hb d_S_widthOfSign_7 (by decide) (by rw [c_3]; first | done | rfl | decide) (by decide) ?_
    refine lv_iconst (v := (1 : Int32)) hx hb d_S_widthOfSign_160 (by decide) ?_
    have ho := Option.some.inj hf
    subst o
    have hP9 := hP.sub (ws' := [(aL, .inr (1, [.ref aB, .int ln])), (aB, .inl (cB, 1024, .inl lb))]) [0, 1] rfl
    have hD9 := hD.sub (ws' := [(aL, .inr (1, [.ref aB, .int ln])), (aB, .inl (cB, 1024, .inl lb))]) [0, 1] (by decide) rfl
    exact W.iret (v := (1 : Int32)) hx hb hr (fun t ht hW => ⟨⟨(1 : Int32), (), rfl, rfl, by rw [ht]; exact hP9, va_K.moved hW.alike hK, hD9⟩, hS.F ht⟩) hS.2.2 d_S_widthOfSign_161
  rw [if_neg c_3] at hf
  by_cases c_4 : o_1 = (38 : Int32)
  · rw [if_pos c_4] at hf
    refine lv_lookup (off := 153) (tgt := 160) hx hb d_S_widthOfSign_7 (by decide) (by rw [c_4]; first | done | rfl | decide) (by decide) ?_
    refine lv_iconst (v := (1 : Int32)) hx hb d_S_widthOfSign_160 (by decide) ?_
    have ho := Option.some.inj hf
    subst o
    have hP9 := hP.sub (ws' := [(aL, .inr (1, [.ref aB, .int ln])), (aB, .inl (cB, 1024, .inl lb))]) [0, 1] rfl
    have hD9 := hD.sub (ws' := [(aL, .inr (1, [.ref aB, .int ln])), (aB, .inl (cB, 1024, .inl lb))]) [0, 1] (by decide) rfl
    exact W.iret (v := (1 : Int32)) hx hb hr (fun t ht hW => ⟨⟨(1 : Int32), (), rfl, rfl, by rw [ht]; exact hP9, va_K.moved hW.alike hK, hD9⟩, hS.F ht⟩) hS.2.2 d_S_widthOfSign_161
  rw [if_neg c_4] at hf
  by_cases c_5 : o_1 = (40 : Int32)
  · rw [if_pos c_5] at hf
    refine lv_lookup (off := 153) (tgt := 160) hx hb d_S_widthOfSign_7 (by decide) (by rw [c_5]; first | done | rfl | decide) (by decide) ?_
    refine lv_iconst (v := (1 : Int32)) hx hb d_S_widthOfSign_160 (by decide) ?_
    have ho := Option.some.inj hf
    subst o
    have hP9 := hP.sub (ws' := [(aL, .inr (1, [.ref aB, .int ln])), (aB, .inl (cB, 1024, .inl lb))]) [0, 1] rfl
    have hD9 := hD.sub (ws' := [(aL, .inr (1, [.ref aB, .int ln])), (aB, .inl (cB, 1024, .inl lb))]) [0, 1] (by decide) rfl
    exact W.iret (v := (1 : Int32)) hx hb hr (fun t ht hW => ⟨⟨(1 : Int32), (), rfl, rfl, by rw [ht]; exact hP9, va_K.moved hW.alike hK, hD9⟩, hS.F ht⟩) hS.2.2 d_S_widthOfSign_161
  rw [if_neg c_5] at hf
  by_cases c_6 : o_1 = (41 : Int32)
  · rw [if_pos c_6] at hf
    refine lv_lookup (off := 153) (tgt := 160) hx hb d_S_widthOfSign_7 (by decide) (by rw [c_6]; first | done | rfl | decide) (by decide) ?_
    refine lv_iconst (v := (1 : Int32)) hx hb d_S_widthOfSign_160 (by decide) ?_
    have ho := Option.some.inj hf
    subst o
    have hP9 := hP.sub (ws' := [(aL, .inr (1, [.ref aB, .int ln])), (aB, .inl (cB, 1024, .inl lb))]) [0, 1] rfl
    have hD9 := hD.sub (ws' := [(aL, .inr (1, [.ref aB, .int ln])), (aB, .inl (cB, 1024, .inl lb))]) [0, 1] (by decide) rfl
    exact W.iret (v := (1 : Int32)) hx hb hr (fun t ht hW => ⟨⟨(1 : Int32), (), rfl, rfl, by rw [ht]; exact hP9, va_K.moved hW.alike hK, hD9⟩, hS.F ht⟩) hS.2.2 d_S_widthOfSign_161
  rw [if_neg c_6] at hf
  by_cases c_7 : o_1 = (42 : Int32)
  · rw [if_pos c_7] at hf
    refine lv_lookup (off := 153) (tgt := 160) hx hb d_S_widthOfSign_7 (by decide) (by rw [c_7]; first | done | rfl | decide) (by decide) ?_
    refine lv_iconst (v := (1 : Int32)) hx hb d_S_widthOfSign_160 (by decide) ?_
    have ho := Option.some.inj hf
    subst o
    have hP9 := hP.sub (ws' := [(aL, .inr (1, [.ref aB, .int ln])), (aB, .inl (cB, 1024, .inl lb))]) [0, 1] rfl
    have hD9 := hD.sub (ws' := [(aL, .inr (1, [.ref aB, .int ln])), (aB, .inl (cB, 1024, .inl lb))]) [0, 1] (by decide) rfl
    exact W.iret (v := (1 : Int32)) hx hb hr (fun t ht hW => ⟨⟨(1 : Int32), (), rfl, rfl, by rw [ht]; exact hP9, va_K.moved hW.alike hK, hD9⟩, hS.F ht⟩) hS.2.2 d_S_widthOfSign_161
  rw [if_neg c_7] at hf
  by_cases c_8 : o_1 = (43 : Int32)
  · rw [if_pos c_8] at hf
    refine lv_lookup (off := 153) (tgt := 160) hx hb d_S_widthOfSign_7 (by decide) (by rw [c_8]; first | done | rfl | decide) (by decide) ?_
    refine lv_iconst (v := (1 : Int32)) hx hb d_S_widthOfSign_160 (by decide) ?_
    have ho := Option.some.inj hf
    subst o
    have hP9 := hP.sub (ws' := [(aL, .inr (1, [.ref aB, .int ln])), (aB, .inl (cB, 1024, .inl lb))]) [0, 1] rfl
    have hD9 := hD.sub (ws' := [(aL, .inr (1, [.ref aB, .int ln])), (aB, .inl (cB, 1024, .inl lb))]) [0, 1] (by decide) rfl
    exact W.iret (v := (1 : Int32)) hx hb hr (fun t ht hW => ⟨⟨(1 : Int32), (), rfl, rfl, by rw [ht]; exact hP9, va_K.moved hW.alike hK, hD9⟩, hS.F ht⟩) hS.2.2 d_S_widthOfSign_161
  rw [if_neg c_8] at hf
  by_cases c_9 : o_1 = (44 : Int32)
  · rw [if_pos c_9] at hf
    refine lv_lookup (off := 153) (tgt := 160) hx hb d_S_widthOfSign_7 (by decide) (by rw [c_9]; first | done | rfl | decide) (by decide) ?_
    refine lv_iconst (v := (1 : Int32)) hx hb d_S_widthOfSign_160 (by decide) ?_
    have ho := Option.some.inj hf
    subst o
    have hP9 := hP.sub (ws' := [(aL, .inr (1, [.ref aB, .int ln])), (aB, .inl (cB, 1024, .inl lb))]) [0, 1] rfl
    have hD9 := hD.sub (ws' := [(aL, .inr (1, [.ref aB, .int ln])), (aB, .inl (cB, 1024, .inl lb))]) [0, 1] (by decide) rfl
    exact W.iret (v := (1 : Int32)) hx hb hr (fun t ht hW => ⟨⟨(1 : Int32), (), rfl, rfl, by rw [ht]; exact hP9, va_K.moved hW.alike hK, hD9⟩, hS.F ht⟩) hS.2.2 d_S_widthOfSign_161
  rw [if_neg c_9] at hf
  by_cases c_10 : o_1 = (45 : Int32)
  · rw [if_pos c_10] at hf
    refine lv_lookup (off := 153) (tgt := 160) hx hb d_S_widthOfSign_7 (by decide) (by rw [c_10]; first | done | rfl | decide) (by decide) ?_
    refine lv_iconst (v := (1 : Int32)) hx hb d_S_widthOfSign_160 (by decide) ?_
    have ho := Option.some.inj hf
    subst o
    have hP9 := hP.sub (ws' := [(aL, .inr (1, [.ref aB, .int ln])), (aB, .inl (cB, 1024, .inl lb))]) [0, 1] rfl
    have hD9 := hD.sub (ws' := [(aL, .inr (1, [.ref aB, .int ln])), (aB, .inl (cB, 1024, .inl lb))]) [0, 1] (by decide) rfl
    exact W.iret (v := (1 : Int32)) hx hb hr (fun t ht hW => ⟨⟨(1 : Int32), (), rfl, rfl, by rw [ht]; exact hP9, va_K.moved hW.alike hK, hD9⟩, hS.F ht⟩) hS.2.2 d_S_widthOfSign_161
  rw [if_neg c_10] at hf
  by_cases c_11 : o_1 = (47 : Int32)
  · rw [if_pos c_11] at hf
    refine lv_lookup (off := 153) (tgt := 160) hx hb d_S_widthOfSign_7 (by decide) (by rw [c_11]; first | done | rfl | decide) (by decide) ?_
    refine lv_iconst (v := (1 : Int32)) hx hb d_S_widthOfSign_160 (by decide) ?_
    have ho := Option.some.inj hf
    subst o
    have hP9 := hP.sub (ws' := [(aL, .inr (1, [.ref aB, .int ln])), (aB, .inl (cB, 1024, .inl lb))]) [0, 1] rfl
    have hD9 := hD.sub (ws' := [(aL, .inr (1, [.ref aB, .int ln])), (aB, .inl (cB, 1024, .inl lb))]) [0, 1] (by decide) rfl
    exact W.iret (v := (1 : Int32)) hx hb hr (fun t ht hW => ⟨⟨(1 : Int32), (), rfl, rfl, by rw [ht]; exact hP9, va_K.moved hW.alike hK, hD9⟩, hS.F ht⟩) hS.2.2 d_S_widthOfSign_161
  rw [if_neg c_11] at hf
  by_cases c_12 : o_1 = (58 : Int32)
  · rw [if_pos c_12] at hf
    refine lv_lookup (off := 153) (tgt := 160) hx hb d_S_widthOfSign_7 (by decide) (by rw [c_12]; first | done | rfl | decide) (by decide) ?_
    refine lv_iconst (v := (1 : Int32)) hx hb d_S_widthOfSign_160 (by decide) ?_
    have ho := Option.some.inj hf
    subst o
    have hP9 := hP.sub (ws' := [(aL, .inr (1, [.ref aB, .int ln])), (aB, .inl (cB, 1024, .inl lb))]) [0, 1] rfl
    have hD9 := hD.sub (ws' := [(aL, .inr (1, [.ref aB, .int ln])), (aB, .inl (cB, 1024, .inl lb))]) [0, 1] (by decide) rfl
    exact W.iret (v := (1 : Int32)) hx hb hr (fun t ht hW => ⟨⟨(1 : Int32), (), rfl, rfl, by rw [ht]; exact hP9, va_K.moved hW.alike hK, hD9⟩, hS.F ht⟩) hS.2.2 d_S_widthOfSign_161
  rw [if_neg c_12] at hf
  by_cases c_13 : o_1 = (60 : Int32)
  · rw [if_pos c_13] at hf
    refine lv_lookup (off := 155) (tgt := 162) hx hb d_S_widthOfSign_7 (by decide) (by rw [c_13]; first | done | rfl | decide) (by decide) ?_
    refine lv_aload_n hx hb d_S_widthOfSign_162 rfl (lv_at hl 1 rfl) ?_
    refine lv_iload_n hx hb d_S_widthOfSign_163 rfl (lv_at hl 2 rfl) ?_
    refine lv_iconst (v := (1 : Int32)) hx hb d_S_widthOfSign_164 (by decide) ?_
    refine lv_iadd hx hb d_S_widthOfSign_165 ?_
    obtain ⟨o_14, hM_14, hf⟩ := bd_some hf
    refine cr_i (va_runV (As := [.int (p1 + (1 : Int32))]) (rest := []) ⟨hx, hb, hml, hown, hts⟩ (c_L_at l dC dI aL aB cB H.size ln lb (p1 + (1 : Int32)) o_14 hM_14) (cwV 1 hts (gwV wb_15 wb_4 wb_5 wb_6 wb_3) rfl rfl rfl (by decide +kernel) ⟨Nat.le_of_ble_eq_true rfl, Nat.le_of_ble_eq_true rfl⟩) (pr_V (hP.sub [0, 1] rfl) (hD.sub [0, 1] (by decide) rfl) hK hN [0] rfl (ci := 1) rfl rfl rfl) rfl rfl hl.1 rfl (lv_room (Nat.le_of_ble_eq_true rfl)) d_S_widthOfSign_166 ⟨Nat.zero_le _, Nat.zero_le _⟩) hP hD hS hA (in_of [0, 1] rfl) (fun r_14 H locs hw hP hS => ?_)
    subst r_14
    refine lv_iload_n hx hb d_S_widthOfSign_169 rfl (lv_at hl 0 rfl) ?_
    refine lv_icmp_ne (tgt := 177) hx hb d_S_widthOfSign_170 (by decide) (fun c_15 => ?_) (fun c_15 => ?_)
    · rw [if_neg c_15] at hf
      refine lv_iconst (v := (0 : Int32)) hx hb d_S_widthOfSign_177 (by decide) ?_
      have ho := Option.some.inj hf
      subst o
      have hP9 := hP.sub (ws' := [(aL, .inr (1, [.ref aB, .int ln])), (aB, .inl (cB, 1024, .inl lb))]) [0, 1] rfl
      have hD9 := hD.sub (ws' := [(aL, .inr (1, [.ref aB, .int ln])), (aB, .inl (cB, 1024, .inl lb))]) [0, 1] (by decide) rfl
      exact W.iret (v := (0 : Int32)) hx hb hr (fun t ht hW => ⟨⟨(0 : Int32), (), rfl, rfl, by rw [ht]; exact hP9, va_K.moved hW.alike hK, hD9⟩, hS.F ht⟩) hS.2.2 d_S_widthOfSign_178
    · rw [if_pos c_15] at hf
      refine lv_iconst (v := (2 : Int32)) hx hb d_S_widthOfSign_173 (by decide) ?_
      refine lv_goto (tgt := 178) hx hb d_S_widthOfSign_174 (by decide) ?_
      have ho := Option.some.inj hf
      subst o
      have hP9 := hP.sub (ws' := [(aL, .inr (1, [.ref aB, .int ln])), (aB, .inl (cB, 1024, .inl lb))]) [0, 1] rfl
      have hD9 := hD.sub (ws' := [(aL, .inr (1, [.ref aB, .int ln])), (aB, .inl (cB, 1024, .inl lb))]) [0, 1] (by decide) rfl
      exact W.iret (v := (2 : Int32)) hx hb hr (fun t ht hW => ⟨⟨(2 : Int32), (), rfl, rfl, by rw [ht]; exact hP9, va_K.moved hW.alike hK, hD9⟩, hS.F ht⟩) hS.2.2 d_S_widthOfSign_178
  rw [if_neg c_13] at hf
  by_cases c_16 : o_1 = (62 : Int32)
  · rw [if_pos c_16] at hf
    refine lv_lookup (off := 155) (tgt := 162) hx hb d_S_widthOfSign_7 (by decide) (by rw [c_16]; first | done | rfl | decide) (by decide) ?_
    refine lv_aload_n hx hb d_S_widthOfSign_162 rfl (lv_at hl 1 rfl) ?_
    refine lv_iload_n hx hb d_S_widthOfSign_163 rfl (lv_at hl 2 rfl) ?_
    refine lv_iconst (v := (1 : Int32)) hx hb d_S_widthOfSign_164 (by decide) ?_
    refine lv_iadd hx hb d_S_widthOfSign_165 ?_
    obtain ⟨o_17, hM_17, hf⟩ := bd_some hf
    refine cr_i (va_runV (As := [.int (p1 + (1 : Int32))]) (rest := []) ⟨hx, hb, hml, hown, hts⟩ (c_L_at l dC dI aL aB cB H.size ln lb (p1 + (1 : Int32)) o_17 hM_17) (cwV 1 hts (gwV wb_15 wb_4 wb_5 wb_6 wb_3) rfl rfl rfl (by decide +kernel) ⟨Nat.le_of_ble_eq_true rfl, Nat.le_of_ble_eq_true rfl⟩) (pr_V (hP.sub [0, 1] rfl) (hD.sub [0, 1] (by decide) rfl) hK hN [0] rfl (ci := 1) rfl rfl rfl) rfl rfl hl.1 rfl (lv_room (Nat.le_of_ble_eq_true rfl)) d_S_widthOfSign_166 ⟨Nat.zero_le _, Nat.zero_le _⟩) hP hD hS hA (in_of [0, 1] rfl) (fun r_17 H locs hw hP hS => ?_)
    subst r_17
    refine lv_iload_n hx hb d_S_widthOfSign_169 rfl (lv_at hl 0 rfl) ?_
    refine lv_icmp_ne (tgt := 177) hx hb d_S_widthOfSign_170 (by decide) (fun c_18 => ?_) (fun c_18 => ?_)
    · rw [if_neg c_18] at hf
      refine lv_iconst (v := (0 : Int32)) hx hb d_S_widthOfSign_177 (by decide) ?_
      have ho := Option.some.inj hf
      subst o
      have hP9 := hP.sub (ws' := [(aL, .inr (1, [.ref aB, .int ln])), (aB, .inl (cB, 1024, .inl lb))]) [0, 1] rfl
      have hD9 := hD.sub (ws' := [(aL, .inr (1, [.ref aB, .int ln])), (aB, .inl (cB, 1024, .inl lb))]) [0, 1] (by decide) rfl
      exact W.iret (v := (0 : Int32)) hx hb hr (fun t ht hW => ⟨⟨(0 : Int32), (), rfl, rfl, by rw [ht]; exact hP9, va_K.moved hW.alike hK, hD9⟩, hS.F ht⟩) hS.2.2 d_S_widthOfSign_178
    · rw [if_pos c_18] at hf
      refine lv_iconst (v := (2 : Int32)) hx hb d_S_widthOfSign_173 (by decide) ?_
      refine lv_goto (tgt := 178) hx hb d_S_widthOfSign_174 (by decide) ?_
      have ho := Option.some.inj hf
      subst o
      have hP9 := hP.sub (ws' := [(aL, .inr (1, [.ref aB, .int ln])), (aB, .inl (cB, 1024, .inl lb))]) [0, 1] rfl
      have hD9 := hD.sub (ws' := [(aL, .inr (1, [.ref aB, .int ln])), (aB, .inl (cB, 1024, .inl lb))]) [0, 1] (by decide) rfl
      exact W.iret (v := (2 : Int32)) hx hb hr (fun t ht hW => ⟨⟨(2 : Int32), (), rfl, rfl, by rw [ht]; exact hP9, va_K.moved hW.alike hK, hD9⟩, hS.F ht⟩) hS.2.2 d_S_widthOfSign_178
  rw [if_neg c_16] at hf
  by_cases c_19 : o_1 = (91 : Int32)
  · rw [if_pos c_19] at hf
    refine lv_lookup (off := 153) (tgt := 160) hx hb d_S_widthOfSign_7 (by decide) (by rw [c_19]; first | done | rfl | decide) (by decide) ?_
    refine lv_iconst (v := (1 : Int32)) hx hb d_S_widthOfSign_160 (by decide) ?_
    have ho := Option.some.inj hf
    subst o
    have hP9 := hP.sub (ws' := [(aL, .inr (1, [.ref aB, .int ln])), (aB, .inl (cB, 1024, .inl lb))]) [0, 1] rfl
    have hD9 := hD.sub (ws' := [(aL, .inr (1, [.ref aB, .int ln])), (aB, .inl (cB, 1024, .inl lb))]) [0, 1] (by decide) rfl
    exact W.iret (v := (1 : Int32)) hx hb hr (fun t ht hW => ⟨⟨(1 : Int32), (), rfl, rfl, by rw [ht]; exact hP9, va_K.moved hW.alike hK, hD9⟩, hS.F ht⟩) hS.2.2 d_S_widthOfSign_161
  rw [if_neg c_19] at hf
  by_cases c_20 : o_1 = (93 : Int32)
  · rw [if_pos c_20] at hf
    refine lv_lookup (off := 153) (tgt := 160) hx hb d_S_widthOfSign_7 (by decide) (by rw [c_20]; first | done | rfl | decide) (by decide) ?_
    refine lv_iconst (v := (1 : Int32)) hx hb d_S_widthOfSign_160 (by decide) ?_
    have ho := Option.some.inj hf
    subst o
    have hP9 := hP.sub (ws' := [(aL, .inr (1, [.ref aB, .int ln])), (aB, .inl (cB, 1024, .inl lb))]) [0, 1] rfl
    have hD9 := hD.sub (ws' := [(aL, .inr (1, [.ref aB, .int ln])), (aB, .inl (cB, 1024, .inl lb))]) [0, 1] (by decide) rfl
    exact W.iret (v := (1 : Int32)) hx hb hr (fun t ht hW => ⟨⟨(1 : Int32), (), rfl, rfl, by rw [ht]; exact hP9, va_K.moved hW.alike hK, hD9⟩, hS.F ht⟩) hS.2.2 d_S_widthOfSign_161
  rw [if_neg c_20] at hf
  by_cases c_21 : o_1 = (94 : Int32)
  · rw [if_pos c_21] at hf
    refine lv_lookup (off := 153) (tgt := 160) hx hb d_S_widthOfSign_7 (by decide) (by rw [c_21]; first | done | rfl | decide) (by decide) ?_
    refine lv_iconst (v := (1 : Int32)) hx hb d_S_widthOfSign_160 (by decide) ?_
    have ho := Option.some.inj hf
    subst o
    have hP9 := hP.sub (ws' := [(aL, .inr (1, [.ref aB, .int ln])), (aB, .inl (cB, 1024, .inl lb))]) [0, 1] rfl
    have hD9 := hD.sub (ws' := [(aL, .inr (1, [.ref aB, .int ln])), (aB, .inl (cB, 1024, .inl lb))]) [0, 1] (by decide) rfl
    exact W.iret (v := (1 : Int32)) hx hb hr (fun t ht hW => ⟨⟨(1 : Int32), (), rfl, rfl, by rw [ht]; exact hP9, va_K.moved hW.alike hK, hD9⟩, hS.F ht⟩) hS.2.2 d_S_widthOfSign_161
  rw [if_neg c_21] at hf
  by_cases c_22 : o_1 = (124 : Int32)
  · rw [if_pos c_22] at hf
    refine lv_lookup (off := 153) (tgt := 160) hx hb d_S_widthOfSign_7 (by decide) (by rw [c_22]; first | done | rfl | decide) (by decide) ?_
    refine lv_iconst (v := (1 : Int32)) hx hb d_S_widthOfSign_160 (by decide) ?_
    have ho := Option.some.inj hf
    subst o
    have hP9 := hP.sub (ws' := [(aL, .inr (1, [.ref aB, .int ln])), (aB, .inl (cB, 1024, .inl lb))]) [0, 1] rfl
    have hD9 := hD.sub (ws' := [(aL, .inr (1, [.ref aB, .int ln])), (aB, .inl (cB, 1024, .inl lb))]) [0, 1] (by decide) rfl
    exact W.iret (v := (1 : Int32)) hx hb hr (fun t ht hW => ⟨⟨(1 : Int32), (), rfl, rfl, by rw [ht]; exact hP9, va_K.moved hW.alike hK, hD9⟩, hS.F ht⟩) hS.2.2 d_S_widthOfSign_161
  rw [if_neg c_22] at hf
  by_cases c_23 : o_1 = (126 : Int32)
  · rw [if_pos c_23] at hf
    refine lv_lookup (off := 153) (tgt := 160) hx hb d_S_widthOfSign_7 (by decide) (by rw [c_23]; first | done | rfl | decide) (by decide) ?_
    refine lv_iconst (v := (1 : Int32)) hx hb d_S_widthOfSign_160 (by decide) ?_
    have ho := Option.some.inj hf
    subst o
    have hP9 := hP.sub (ws' := [(aL, .inr (1, [.ref aB, .int ln])), (aB, .inl (cB, 1024, .inl lb))]) [0, 1] rfl
    have hD9 := hD.sub (ws' := [(aL, .inr (1, [.ref aB, .int ln])), (aB, .inl (cB, 1024, .inl lb))]) [0, 1] (by decide) rfl
    exact W.iret (v := (1 : Int32)) hx hb hr (fun t ht hW => ⟨⟨(1 : Int32), (), rfl, rfl, by rw [ht]; exact hP9, va_K.moved hW.alike hK, hD9⟩, hS.F ht⟩) hS.2.2 d_S_widthOfSign_161
  rw [if_neg c_23] at hf
  refine lv_lookup (off := 172) (tgt := 179) hx hb d_S_widthOfSign_7 (by decide) (by rw [lv_osw c_2 (by decide), lv_osw c_3 (by decide), lv_osw c_4 (by decide), lv_osw c_5 (by decide), lv_osw c_6 (by decide), lv_osw c_7 (by decide), lv_osw c_8 (by decide), lv_osw c_9 (by decide), lv_osw c_10 (by decide), lv_osw c_11 (by decide), lv_osw c_12 (by decide), lv_osw c_13 (by decide), lv_osw c_16 (by decide), lv_osw c_19 (by decide), lv_osw c_20 (by decide), lv_osw c_21 (by decide), lv_osw c_22 (by decide), lv_osw c_23 (by decide)]; first | done | rfl) (by decide) ?_
  refine lv_iconst (v := (0 : Int32)) hx hb d_S_widthOfSign_179 (by decide) ?_
  have ho := Option.some.inj hf
  subst o
  have hP9 := hP.sub (ws' := [(aL, .inr (1, [.ref aB, .int ln])), (aB, .inl (cB, 1024, .inl lb))]) [0, 1] rfl
  have hD9 := hD.sub (ws' := [(aL, .inr (1, [.ref aB, .int ln])), (aB, .inl (cB, 1024, .inl lb))]) [0, 1] (by decide) rfl
  exact W.iret (v := (0 : Int32)) hx hb hr (fun t ht hW => ⟨⟨(0 : Int32), (), rfl, rfl, by rw [ht]; exact hP9, va_K.moved hW.alike hK, hD9⟩, hS.F ht⟩) hS.2.2 d_S_widthOfSign_180

def f_S_baseOfNumber (ln : Int32) (lb : Nat → Int32) (p1 : Int32) : Option (Int32) := (f_L_at ln lb p1).bind (fun o_1 => if o_1 = (48 : Int32) then (f_L_at ln lb (p1 + (1 : Int32))).bind (fun o_3 => if o_3 = (120 : Int32) then some ((16 : Int32)) else if o_3 = (98 : Int32) then some ((2 : Int32)) else some ((10 : Int32))) else some ((10 : Int32)))
set_option maxHeartbeats 4000000 in
set_option maxRecDepth 100000 in
theorem c_S_baseOfNumber (l : Launch) (dC : Nat → ClassId) (dI : Nat → Nat → Nat) (aL aB : Nat) (cB : ClassId) (sz : Nat) (ln : Int32) (lb : Nat → Int32) (p1 : Int32) (o : Int32) (hf : f_S_baseOfNumber ln lb p1 = some o) : Met l y_S_baseOfNumber (w_S_baseOfNumber) ({ frames := 1, cells := 0, slots := 0, locals := 21 }) (va_Pc [.ref aL, .int p1] (fun U => U.heap.size = sz ∧ va_P (dC, dI) vwCl [(aL, .inr (1, [.ref aB, .int ln])), (aB, .inl (cB, 1024, .inl lb))] U.heap ∧ va_K (dC, dI) vwCl [(cB, .byte)] U ∧ va_D (fun _ => True) [(aL, .inr (1, [.ref aB, .int ln])), (aB, .inl (cB, 1024, .inl lb))] ∧ NW U)) (va_Qi (fun (r : Int32) (_ : Unit) => r = o) (fun _ t => va_P (dC, dI) vwCl [(aL, .inr (1, [.ref aB, .int ln])), (aB, .inl (cB, 1024, .inl lb))] t.heap ∧ va_K (dC, dI) vwCl [(cB, .byte)] t ∧ va_D (va_A [(aL, .inr (1, [.ref aB, .int ln])), (aB, .inl (cB, 1024, .inl lb))] sz) [(aL, .inr (1, [.ref aB, .int ln])), (aB, .inl (cB, 1024, .inl lb))]) (va_A [(aL, .inr (1, [.ref aB, .int ln])), (aB, .inl (cB, 1024, .inl lb))] sz)) 0 0 (va_A [(aL, .inr (1, [.ref aB, .int ln])), (aB, .inl (cB, 1024, .inl lb))] sz) := by
  refine Met.ofW (cc := b_S_baseOfNumber) (maxL := 3) (ret := (some .int)) (by decide) rfl ?_
  intro p e s m args below meth c s₁ B hml hv
  obtain ⟨rfl, hsz, hP, hK, hD0, hN⟩ := hv
  have hx := B.exec
  have hb := B.bytes
  have hr := B.returns
  have hts : ∀ w ∈ WB, w.before _ s = true := fun w h => atoms_spec (ws := w_S_baseOfNumber) B.pre w (List.mem_cons_of_mem _ h)
  have hown : s.vm.findClass R_S = some m.cls := findClass_of_methodNamed B.named
  have hlocks := B.notSynchronized
  subst hsz
  have hD := hD0.self (sz := s.heap.size)
  generalize hAe : va_A [(aL, .inr (1, [.ref aB, .int ln])), (aB, .inl (cB, 1024, .inl lb))] s.heap.size = A at hD ⊢
  have hA : ∀ q : Nat, s.heap.size ≤ q → A q := fun q h => by rw [← hAe]; exact Or.inr h
  have hS : va_S A s.heap s.heap [] := va_S.rf
  have hP : va_P (dC, dI) vwCl [(aL, .inr (1, [.ref aB, .int ln])), (aB, .inl (cB, 1024, .inl lb))] s.heap := hP
  have hl := lv_entry [.ref aL, .int p1] (n := 3) (Nat.le_of_ble_eq_true rfl)
  rw [lg_entry_eq]
  generalize (lg_sl [.ref aL, .int p1] ++ List.replicate (3 - (lg_sl [.ref aL, .int p1]).length) Slot.unset).toArray = ls at hl ⊢
  have hl : lv_has ls 3 [(0, .ref aL), (1, .int p1)] := hl
  rw [f_S_baseOfNumber] at hf
  refine lv_aload_n hx hb d_S_baseOfNumber_0 rfl (lv_at hl 0 rfl) ?_
  refine lv_iload_n hx hb d_S_baseOfNumber_1 rfl (lv_at hl 1 rfl) ?_
  obtain ⟨o_1, hM_1, hf⟩ := bd_some hf
  refine cr_i (va_runV (As := [.int p1]) (rest := []) ⟨hx, hb, hml, hown, hts⟩ (c_L_at l dC dI aL aB cB s.heap.size ln lb p1 o_1 hM_1) (cwV 1 hts (gwV wb_15 wb_4 wb_5 wb_6 wb_3) rfl rfl rfl (by decide +kernel) ⟨Nat.le_of_ble_eq_true rfl, Nat.le_of_ble_eq_true rfl⟩) (pr_V (hP.sub [0, 1] rfl) (hD.sub [0, 1] (by decide) rfl) hK hN [0] rfl (ci := 1) rfl rfl rfl) rfl rfl hl.1 rfl (lv_room (Nat.le_of_ble_eq_true rfl)) d_S_baseOfNumber_2 ⟨Nat.zero_le _, Nat.zero_le _⟩) hP hD hS hA (in_of [0, 1] rfl) (fun r_1 H locs hw hP hS => ?_)
  subst r_1
  refine lv_bipush (v := (48 : Int32)) hx hb d_S_baseOfNumber_5 (by decide) ?_
  refine lv_icmp_eq (tgt := 13) hx hb d_S_baseOfNumber_7 (by decide) (fun c_2 => ?_) (fun c_2 => ?_)
  · rw [if_pos c_2] at hf
    refine lv_aload_n hx hb d_S_baseOfNumber_13 rfl (lv_at hl 0 rfl) ?_
    refine lv_iload_n hx hb d_S_baseOfNumber_14 rfl (lv_at hl 1 rfl) ?_
    refine lv_iconst (v := (1 : Int32)) hx hb d_S_baseOfNumber_15 (by decide) ?_
    refine lv_iadd hx hb d_S_baseOfNumber_16 ?_
    obtain ⟨o_3, hM_3, hf⟩ := bd_some hf
    refine cr_i (va_runV (As := [.int (p1 + (1 : Int32))]) (rest := []) ⟨hx, hb, hml, hown, hts⟩ (c_L_at l dC dI aL aB cB H.size ln lb (p1 + (1 : Int32)) o_3 hM_3) (cwV 1 hts (gwV wb_15 wb_4 wb_5 wb_6 wb_3) rfl rfl rfl (by decide +kernel) ⟨Nat.le_of_ble_eq_true rfl, Nat.le_of_ble_eq_true rfl⟩) (pr_V (hP.sub [0, 1] rfl) (hD.sub [0, 1] (by decide) rfl) hK hN [0] rfl (ci := 1) rfl rfl rfl) rfl rfl hl.1 rfl (lv_room (Nat.le_of_ble_eq_true rfl)) d_S_baseOfNumber_17 ⟨Nat.zero_le _, Nat.zero_le _⟩) hP hD hS hA (in_of [0, 1] rfl) (fun r_3 H locs hw hP hS => ?_)
    subst r_3
    refine lv_istore_n (lv' := [(2, .int o_3), (0, .ref aL), (1, .int p1)]) hx hb d_S_baseOfNumber_20 rfl hl (by decide) rfl (fun ls hl => ?_)
    refine lv_iload_n hx hb d_S_baseOfNumber_21 rfl (lv_at hl 0 rfl) ?_
    refine lv_bipush (v := (120 : Int32)) hx hb d_S_baseOfNumber_22 (by decide) ?_
    refine lv_icmp_ne (tgt := 30) hx hb d_S_baseOfNumber_24 (by decide) (fun c_4 => ?_) (fun c_4 => ?_)
    · rw [if_neg c_4] at hf
      refine lv_iload_n hx hb d_S_baseOfNumber_30 rfl (lv_at hl 0 rfl) ?_
      refine lv_bipush (v := (98 : Int32)) hx hb d_S_baseOfNumber_31 (by decide) ?_
      refine lv_icmp_ne (tgt := 40) hx hb d_S_baseOfNumber_33 (by decide) (fun c_5 => ?_) (fun c_5 => ?_)
      · rw [if_neg c_5] at hf
        refine lv_bipush (v := (10 : Int32)) hx hb d_S_baseOfNumber_40 (by decide) ?_
        have ho := Option.some.inj hf
        subst o
        have hP9 := hP.sub (ws' := [(aL, .inr (1, [.ref aB, .int ln])), (aB, .inl (cB, 1024, .inl lb))]) [0, 1] rfl
        have hD9 := hD.sub (ws' := [(aL, .inr (1, [.ref aB, .int ln])), (aB, .inl (cB, 1024, .inl lb))]) [0, 1] (by decide) rfl
        exact W.iret (v := (10 : Int32)) hx hb hr (fun t ht hW => ⟨⟨(10 : Int32), (), rfl, rfl, by rw [ht]; exact hP9, va_K.moved hW.alike hK, hD9⟩, hS.F ht⟩) hS.2.2 d_S_baseOfNumber_42
      · rw [if_pos c_5] at hf
        refine lv_iconst (v := (2 : Int32)) hx hb d_S_baseOfNumber_36 (by decide) ?_
        refine lv_goto (tgt := 42) hx hb d_S_baseOfNumber_37 (by decide) ?_
        have ho := Option.some.inj hf
        subst o
        have hP9 := hP.sub (ws' := [(aL, .inr (1, [.ref aB, .int ln])), (aB, .inl (cB, 1024, .inl lb))]) [0, 1] rfl
        have hD9 := hD.sub (ws' := [(aL, .inr (1, [.ref aB, .int ln])), (aB, .inl (cB, 1024, .inl lb))]) [0, 1] (by decide) rfl
        exact W.iret (v := (2 : Int32)) hx hb hr (fun t ht hW => ⟨⟨(2 : Int32), (), rfl, rfl, by rw [ht]; exact hP9, va_K.moved hW.alike hK, hD9⟩, hS.F ht⟩) hS.2.2 d_S_baseOfNumber_42
    · rw [if_pos c_4] at hf
      refine lv_bipush (v := (16 : Int32)) hx hb d_S_baseOfNumber_27 (by decide) ?_
      have ho := Option.some.inj hf
      subst o
      have hP9 := hP.sub (ws' := [(aL, .inr (1, [.ref aB, .int ln])), (aB, .inl (cB, 1024, .inl lb))]) [0, 1] rfl
      have hD9 := hD.sub (ws' := [(aL, .inr (1, [.ref aB, .int ln])), (aB, .inl (cB, 1024, .inl lb))]) [0, 1] (by decide) rfl
      exact W.iret (v := (16 : Int32)) hx hb hr (fun t ht hW => ⟨⟨(16 : Int32), (), rfl, rfl, by rw [ht]; exact hP9, va_K.moved hW.alike hK, hD9⟩, hS.F ht⟩) hS.2.2 d_S_baseOfNumber_29
  · rw [if_neg c_2] at hf
    refine lv_bipush (v := (10 : Int32)) hx hb d_S_baseOfNumber_10 (by decide) ?_
    have ho := Option.some.inj hf
    subst o
    have hP9 := hP.sub (ws' := [(aL, .inr (1, [.ref aB, .int ln])), (aB, .inl (cB, 1024, .inl lb))]) [0, 1] rfl
    have hD9 := hD.sub (ws' := [(aL, .inr (1, [.ref aB, .int ln])), (aB, .inl (cB, 1024, .inl lb))]) [0, 1] (by decide) rfl
    exact W.iret (v := (10 : Int32)) hx hb hr (fun t ht hW => ⟨⟨(10 : Int32), (), rfl, rfl, by rw [ht]; exact hP9, va_K.moved hW.alike hK, hD9⟩, hS.F ht⟩) hS.2.2 d_S_baseOfNumber_12

def f_S_digit (p0 : Int32) (p1 : Int32) : Option (Int32) := (f_S_isDigit p0).bind (fun o_1 => if o_1 = (0 : Int32) then if p0 < (97 : Int32) then if p0 < (65 : Int32) then if p1 ≤ (-1 : Int32) then some ((-1 : Int32)) else some ((-1 : Int32)) else if (70 : Int32) < p0 then if p1 ≤ (-1 : Int32) then some ((-1 : Int32)) else some ((-1 : Int32)) else if p1 ≤ ((p0 - (65 : Int32)) + (10 : Int32)) then some ((-1 : Int32)) else some ((p0 - (65 : Int32)) + (10 : Int32)) else if (102 : Int32) < p0 then if p0 < (65 : Int32) then if p1 ≤ (-1 : Int32) then some ((-1 : Int32)) else some ((-1 : Int32)) else if (70 : Int32) < p0 then if p1 ≤ (-1 : Int32) then some ((-1 : Int32)) else some ((-1 : Int32)) else if p1 ≤ ((p0 - (65 : Int32)) + (10 : Int32)) then some ((-1 : Int32)) else some ((p0 - (65 : Int32)) + (10 : Int32)) else if p1 ≤ ((p0 - (97 : Int32)) + (10 : Int32)) then some ((-1 : Int32)) else some ((p0 - (97 : Int32)) + (10 : Int32)) else if p1 ≤ (p0 - (48 : Int32)) then some ((-1 : Int32)) else some (p0 - (48 : Int32)))
set_option maxHeartbeats 4000000 in
set_option maxRecDepth 100000 in
theorem c_S_digit (l : Launch) (dC : Nat → ClassId) (dI : Nat → Nat → Nat) (sz : Nat) (p0 : Int32) (p1 : Int32) (o : Int32) (hf : f_S_digit p0 p1 = some o) : Met l y_S_digit (w_S_digit) ({ frames := 1, cells := 0, slots := 0, locals := 20 }) (va_Pc [.int p0, .int p1] (fun U => U.heap.size = sz ∧ va_P (dC, dI) vwCl [] U.heap ∧ va_K (dC, dI) vwCl [] U ∧ va_D (fun _ => True) [] ∧ NW U)) (va_Qi (fun (r : Int32) (_ : Unit) => r = o) (fun _ t => va_P (dC, dI) vwCl [] t.heap ∧ va_K (dC, dI) vwCl [] t ∧ va_D (va_A [] sz) []) (va_A [] sz)) 0 0 (va_A [] sz) := by
  refine Met.ofW (cc := b_S_digit) (maxL := 3) (ret := (some .int)) (by decide) rfl ?_
  intro p e s m args below meth c s₁ B hml hv
  obtain ⟨rfl, hsz, hP, hK, hD0, hN⟩ := hv
  have hx := B.exec
  have hb := B.bytes
  have hr := B.returns
  have hts : ∀ w ∈ WB, w.before _ s = true := fun w h => atoms_spec (ws := w_S_digit) B.pre w (List.mem_cons_of_mem _ h)
  have hown : s.vm.findClass R_S = some m.cls := findClass_of_methodNamed B.named
  have hlocks := B.notSynchronized
  subst hsz
  have hD := hD0.self (sz := s.heap.size)
  generalize hAe : va_A [] s.heap.size = A at hD ⊢
  have hA : ∀ q : Nat, s.heap.size ≤ q → A q := fun q h => by rw [← hAe]; exact Or.inr h
  have hS : va_S A s.heap s.heap [] := va_S.rf
  have hP : va_P (dC, dI) vwCl [] s.heap := hP
  have hl := lv_entry [.int p0, .int p1] (n := 3) (Nat.le_of_ble_eq_true rfl)
  rw [lg_entry_eq]
  generalize (lg_sl [.int p0, .int p1] ++ List.replicate (3 - (lg_sl [.int p0, .int p1]).length) Slot.unset).toArray = ls at hl ⊢
  have hl : lv_has ls 3 [(0, .int p0), (1, .int p1)] := hl
  rw [f_S_digit] at hf
  refine lv_iconst (v := (-1 : Int32)) hx hb d_S_digit_0 (by decide) ?_
  refine lv_istore_n (lv' := [(2, .int (-1 : Int32)), (0, .int p0), (1, .int p1)]) hx hb d_S_digit_1 rfl hl (by decide) rfl (fun ls hl => ?_)
  refine lv_iload_n hx hb d_S_digit_2 rfl (lv_at hl 1 rfl) ?_
  obtain ⟨o_1, hM_1, hf⟩ := bd_some hf
  refine cr_i (va_runS (As := [.int p0]) (rest := []) ⟨hx, hb, hml, hown, hts⟩ (c_S_isDigit l dC dI   s.heap.size  p0 o_1 hM_1) (va_cwS 1 hts (gwS wb_7 wb_9 wb_10 wb_8) rfl rfl rfl (by decide +kernel) ⟨Nat.le_of_ble_eq_true rfl, Nat.le_of_ble_eq_true rfl⟩) (pr_S (hP.sub [] rfl) (hD.sub [] (by decide) rfl) hK hN [] rfl) rfl rfl hl.1 rfl (lv_room (Nat.le_of_ble_eq_true rfl)) d_S_digit_3 ⟨Nat.zero_le _, Nat.zero_le _⟩) hP hD hS hA (in_of [] rfl) (fun r_1 H locs hw hP hS => ?_)
  obtain ⟨hw, hz_1⟩ := hw
  subst r_1
  refine lv_if_eq (tgt := 17) hx hb d_S_digit_6 (by decide) (fun c_2 => ?_) (fun c_2 => ?_)
  · rw [if_pos c_2] at hf
    refine lv_iload_n hx hb d_S_digit_17 rfl (lv_at hl 1 rfl) ?_
    refine lv_bipush (v := (97 : Int32)) hx hb d_S_digit_18 (by decide) ?_
    refine lv_icmp_lt (tgt := 40) hx hb d_S_digit_20 (by decide) (fun c_3 => ?_) (fun c_3 => ?_)
    · rw [if_pos c_3] at hf
      refine lv_iload_n hx hb d_S_digit_40 rfl (lv_at hl 1 rfl) ?_
      refine lv_bipush (v := (65 : Int32)) hx hb d_S_digit_41 (by decide) ?_
      refine lv_icmp_lt (tgt := 60) hx hb d_S_digit_43 (by decide) (fun c_4 => ?_) (fun c_4 => ?_)
      · rw [if_pos c_4] at hf
        refine lv_iload_n hx hb d_S_digit_60 rfl (lv_at hl 0 rfl) ?_
        refine lv_iload_n hx hb d_S_digit_61 rfl (lv_at hl 2 rfl) ?_
        refine lv_icmp_ge (tgt := 69) hx hb d_S_digit_62 (by decide) (fun c_5 => ?_) (fun c_5 => ?_)
        · rw [if_pos c_5] at hf
          refine lv_iconst (v := (-1 : Int32)) hx hb d_S_digit_69 (by decide) ?_
          have ho := Option.some.inj hf
          subst o
          have hP9 := hP.sub (ws' := []) [] rfl
          have hD9 := hD.sub (ws' := []) [] (by decide) rfl
          exact W.iret (v := (-1 : Int32)) hx hb hr (fun t ht hW => ⟨⟨(-1 : Int32), (), rfl, rfl, by rw [ht]; exact hP9, va_K.moved hW.alike hK, hD9⟩, hS.F ht⟩) hS.2.2 d_S_digit_70
        · rw [if_neg c_5] at hf
          refine lv_iload_n hx hb d_S_digit_65 rfl (lv_at hl 0 rfl) ?_
          refine lv_goto (tgt := 70) hx hb d_S_digit_66 (by decide) ?_
          have ho := Option.some.inj hf
          subst o
          have hP9 := hP.sub (ws' := []) [] rfl
          have hD9 := hD.sub (ws' := []) [] (by decide) rfl
          exact W.iret (v := (-1 : Int32)) hx hb hr (fun t ht hW => ⟨⟨(-1 : Int32), (), rfl, rfl, by rw [ht]; exact hP9, va_K.moved hW.alike hK, hD9⟩, hS.F ht⟩) hS.2.2 d_S_digit_70
      · rw [if_neg c_4] at hf
        refine lv_iload_n hx hb d_S_digit_46 rfl (lv_at hl 1 rfl) ?_
        refine lv_bipush (v := (70 : Int32)) hx hb d_S_digit_47 (by decide) ?_
        refine lv_icmp_gt (tgt := 60) hx hb d_S_digit_49 (by decide) (fun c_6 => ?_) (fun c_6 => ?_)
        · rw [if_pos c_6] at hf
          refine lv_iload_n hx hb d_S_digit_60 rfl (lv_at hl 0 rfl) ?_
          refine lv_iload_n hx hb d_S_digit_61 rfl (lv_at hl 2 rfl) ?_
          refine lv_icmp_ge (tgt := 69) hx hb d_S_digit_62 (by decide) (fun c_7 => ?_) (fun c_7 => ?_)
          · rw [if_pos c_7] at hf
            refine lv_iconst (v := (-1 : Int32)) hx hb d_S_digit_69 (by decide) ?_
            have ho := Option.some.inj hf
            subst o
            have hP9 := hP.sub (ws' := []) [] rfl
            have hD9 := hD.sub (ws' := []) [] (by decide) rfl
            exact W.iret (v := (-1 : Int32)) hx hb hr (fun t ht hW => ⟨⟨(-1 : Int32), (), rfl, rfl, by rw [ht]; exact hP9, va_K.moved hW.alike hK, hD9⟩, hS.F ht⟩) hS.2.2 d_S_digit_70
          · rw [if_neg c_7] at hf
            refine lv_iload_n hx hb d_S_digit_65 rfl (lv_at hl 0 rfl) ?_
            refine lv_goto (tgt := 70) hx hb d_S_digit_66 (by decide) ?_
            have ho := Option.some.inj hf
            subst o
            have hP9 := hP.sub (ws' := []) [] rfl
            have hD9 := hD.sub (ws' := []) [] (by decide) rfl
            exact W.iret (v := (-1 : Int32)) hx hb hr (fun t ht hW => ⟨⟨(-1 : Int32), (), rfl, rfl, by rw [ht]; exact hP9, va_K.moved hW.alike hK, hD9⟩, hS.F ht⟩) hS.2.2 d_S_digit_70
        · rw [if_neg c_6] at hf
          refine lv_iload_n hx hb d_S_digit_52 rfl (lv_at hl 1 rfl) ?_
          refine lv_bipush (v := (65 : Int32)) hx hb d_S_digit_53 (by decide) ?_
          refine lv_isub hx hb d_S_digit_55 ?_
          refine lv_bipush (v := (10 : Int32)) hx hb d_S_digit_56 (by decide) ?_
          refine lv_iadd hx hb d_S_digit_58 ?_
          refine lv_istore_n (lv' := [(2, .int ((p0 - (65 : Int32)) + (10 : Int32))), (0, .int p0), (1, .int p1)]) hx hb d_S_digit_59 rfl hl (by decide) rfl (fun ls hl => ?_)
          refine lv_iload_n hx hb d_S_digit_60 rfl (lv_at hl 0 rfl) ?_
          refine lv_iload_n hx hb d_S_digit_61 rfl (lv_at hl 2 rfl) ?_
          refine lv_icmp_ge (tgt := 69) hx hb d_S_digit_62 (by decide) (fun c_8 => ?_) (fun c_8 => ?_)
          · rw [if_pos c_8] at hf
            refine lv_iconst (v := (-1 : Int32)) hx hb d_S_digit_69 (by decide) ?_
            have ho := Option.some.inj hf
            subst o
            have hP9 := hP.sub (ws' := []) [] rfl
            have hD9 := hD.sub (ws' := []) [] (by decide) rfl
            exact W.iret (v := (-1 : Int32)) hx hb hr (fun t ht hW => ⟨⟨(-1 : Int32), (), rfl, rfl, by rw [ht]; exact hP9, va_K.moved hW.alike hK, hD9⟩, hS.F ht⟩) hS.2.2 d_S_digit_70
          · rw [if_neg c_8] at hf
            refine lv_iload_n hx hb d_S_digit_65 rfl (lv_at hl 0 rfl) ?_
            refine lv_goto (tgt := 70) hx hb d_S_digit_66 (by decide) ?_
            have ho := Option.some.inj hf
            subst o
            have hP9 := hP.sub (ws' := []) [] rfl
            have hD9 := hD.sub (ws' := []) [] (by decide) rfl
            exact W.iret (v := (p0 - (65 : Int32)) + (10 : Int32)) hx hb hr (fun t ht hW => ⟨⟨(p0 - (65 : Int32)) + (10 : Int32), (), rfl, rfl, by rw [ht]; exact hP9, va_K.moved hW.alike hK, hD9⟩, hS.F ht⟩) hS.2.2 d_S_digit_70
    · rw [if_neg c_3] at hf
      refine lv_iload_n hx hb d_S_digit_23 rfl (lv_at hl 1 rfl) ?_
      refine lv_bipush (v := (102 : Int32)) hx hb d_S_digit_24 (by decide) ?_
      refine lv_icmp_gt (tgt := 40) hx hb d_S_digit_26 (by decide) (fun c_9 => ?_) (fun c_9 => ?_)
      · rw [if_pos c_9] at hf
        refine lv_iload_n hx hb d_S_digit_40 rfl (lv_at hl 1 rfl) ?_
        refine lv_bipush (v := (65 : Int32)) hx hb d_S_digit_41 (by decide) ?_
        refine lv_icmp_lt (tgt := 60) hx hb d_S_digit_43 (by decide) (fun c_10 => ?_) (fun c_10 => ?_)
        · rw [if_pos c_10] at hf
          refine lv_iload_n hx hb d_S_digit_60 rfl (lv_at hl 0 rfl) ?_
          refine lv_iload_n hx hb d_S_digit_61 rfl (lv_at hl 2 rfl) ?_
          refine lv_icmp_ge (tgt := 69) hx hb d_S_digit_62 (by decide) (fun c_11 => ?_) (fun c_11 => ?_)
          · rw [if_pos c_11] at hf
            refine lv_iconst (v := (-1 : Int32)) hx hb d_S_digit_69 (by decide) ?_
            have ho := Option.some.inj hf
            subst o
            have hP9 := hP.sub (ws' := []) [] rfl
            have hD9 := hD.sub (ws' := []) [] (by decide) rfl
            exact W.iret (v := (-1 : Int32)) hx hb hr (fun t ht hW => ⟨⟨(-1 : Int32), (), rfl, rfl, by rw [ht]; exact hP9, va_K.moved hW.alike hK, hD9⟩, hS.F ht⟩) hS.2.2 d_S_digit_70
          · rw [if_neg c_11] at hf
            refine lv_iload_n hx hb d_S_digit_65 rfl (lv_at hl 0 rfl) ?_
            refine lv_goto (tgt := 70) hx hb d_S_digit_66 (by decide) ?_
            have ho := Option.some.inj hf
            subst o
            have hP9 := hP.sub (ws' := []) [] rfl
            have hD9 := hD.sub (ws' := []) [] (by decide) rfl
            exact W.iret (v := (-1 : Int32)) hx hb hr (fun t ht hW => ⟨⟨(-1 : Int32), (), rfl, rfl, by rw [ht]; exact hP9, va_K.moved hW.alike hK, hD9⟩, hS.F ht⟩) hS.2.2 d_S_digit_70
        · rw [if_neg c_10] at hf
          refine lv_iload_n hx hb d_S_digit_46 rfl (lv_at hl 1 rfl) ?_
          refine lv_bipush (v := (70 : Int32)) hx hb d_S_digit_47 (by decide) ?_
          refine lv_icmp_gt (tgt := 60) hx hb d_S_digit_49 (by decide) (fun c_12 => ?_) (fun c_12 => ?_)
          · rw [if_pos c_12] at hf
            refine lv_iload_n hx hb d_S_digit_60 rfl (lv_at hl 0 rfl) ?_
            refine lv_iload_n hx hb d_S_digit_61 rfl (lv_at hl 2 rfl) ?_
            refine lv_icmp_ge (tgt := 69) hx hb d_S_digit_62 (by decide) (fun c_13 => ?_) (fun c_13 => ?_)
            · rw [if_pos c_13] at hf
              refine lv_iconst (v := (-1 : Int32)) hx hb d_S_digit_69 (by decide) ?_
              have ho := Option.some.inj hf
              subst o
              have hP9 := hP.sub (ws' := []) [] rfl
              have hD9 := hD.sub (ws' := []) [] (by decide) rfl
              exact W.iret (v := (-1 : Int32)) hx hb hr (fun t ht hW => ⟨⟨(-1 : Int32), (), rfl, rfl, by rw [ht]; exact hP9, va_K.moved hW.alike hK, hD9⟩, hS.F ht⟩) hS.2.2 d_S_digit_70
            · rw [if_neg c_13] at hf
              refine lv_iload_n hx hb d_S_digit_65 rfl (lv_at hl 0 rfl) ?_
              refine lv_goto (tgt := 70) hx hb d_S_digit_66 (by decide) ?_
              have ho := Option.some.inj hf
              subst o
              have hP9 := hP.sub (ws' := []) [] rfl
              have hD9 := hD.sub (ws' := []) [] (by decide) rfl
              exact W.iret (v := (-1 : Int32)) hx hb hr (fun t ht hW => ⟨⟨(-1 : Int32), (), rfl, rfl, by rw [ht]; exact hP9, va_K.moved hW.alike hK, hD9⟩, hS.F ht⟩) hS.2.2 d_S_digit_70
          · rw [if_neg c_12] at hf
            refine lv_iload_n hx hb d_S_digit_52 rfl (lv_at hl 1 rfl) ?_
            refine lv_bipush (v := (65 : Int32)) hx hb d_S_digit_53 (by decide) ?_
            refine lv_isub hx hb d_S_digit_55 ?_
            refine lv_bipush (v := (10 : Int32)) hx hb d_S_digit_56 (by decide) ?_
            refine lv_iadd hx hb d_S_digit_58 ?_
            refine lv_istore_n (lv' := [(2, .int ((p0 - (65 : Int32)) + (10 : Int32))), (0, .int p0), (1, .int p1)]) hx hb d_S_digit_59 rfl hl (by decide) rfl (fun ls hl => ?_)
            refine lv_iload_n hx hb d_S_digit_60 rfl (lv_at hl 0 rfl) ?_
            refine lv_iload_n hx hb d_S_digit_61 rfl (lv_at hl 2 rfl) ?_
            refine lv_icmp_ge (tgt := 69) hx hb d_S_digit_62 (by decide) (fun c_14 => ?_) (fun c_14 => ?_)
            · rw [if_pos c_14] at hf
              refine lv_iconst (v := (-1 : Int32)) hx hb d_S_digit_69 (by decide) ?_
              have ho := Option.some.inj hf
              subst o
              have hP9 := hP.sub (ws' := []) [] rfl
              have hD9 := hD.sub (ws' := []) [] (by decide) rfl
              exact W.iret (v := (-1 : Int32)) hx hb hr (fun t ht hW => ⟨⟨(-1 : Int32), (), rfl, rfl, by rw [ht]; exact hP9, va_K.moved hW.alike hK, hD9⟩, hS.F ht⟩) hS.2.2 d_S_digit_70
            · rw [if_neg c_14] at hf
              refine lv_iload_n hx hb d_S_digit_65 rfl (lv_at hl 0 rfl) ?_
              refine lv_goto (tgt := 70) hx hb d_S_digit_66 (by decide) ?_
              have ho := Option.some.inj hf
              subst o
              have hP9 := hP.sub (ws' := []) [] rfl
              have hD9 := hD.sub (ws' := []) [] (by decide) rfl
              exact W.iret (v := (p0 - (65 : Int32)) + (10 : Int32)) hx hb hr (fun t ht hW => ⟨⟨(p0 - (65 : Int32)) + (10 : Int32), (), rfl, rfl, by rw [ht]; exact hP9, va_K.moved hW.alike hK, hD9⟩, hS.F ht⟩) hS.2.2 d_S_digit_70
      · rw [if_neg c_9] at hf
        refine lv_iload_n hx hb d_S_digit_29 rfl (lv_at hl 1 rfl) ?_
        refine lv_bipush (v := (97 : Int32)) hx hb d_S_digit_30 (by decide) ?_
        refine lv_isub hx hb d_S_digit_32 ?_
        refine lv_bipush (v := (10 : Int32)) hx hb d_S_digit_33 (by decide) ?_
        refine lv_iadd hx hb d_S_digit_35 ?_
        refine lv_istore_n (lv' := [(2, .int ((p0 - (97 : Int32)) + (10 : Int32))), (0, .int p0), (1, .int p1)]) hx hb d_S_digit_36 rfl hl (by decide) rfl (fun ls hl => ?_)
        refine lv_goto (tgt := 60) hx hb d_S_digit_37 (by decide) ?_
        refine lv_iload_n hx hb d_S_digit_60 rfl (lv_at hl 0 rfl) ?_
        refine lv_iload_n hx hb d_S_digit_61 rfl (lv_at hl 2 rfl) ?_
        refine lv_icmp_ge (tgt := 69) hx hb d_S_digit_62 (by decide) (fun c_15 => ?_) (fun c_15 => ?_)
        · rw [if_pos c_15] at hf
          refine lv_iconst (v := (-1 : Int32)) hx hb d_S_digit_69 (by decide) ?_
          have ho := Option.some.inj hf
          subst o
          have hP9 := hP.sub (ws' := []) [] rfl
          have hD9 := hD.sub (ws' := []) [] (by decide) rfl
          exact W.iret (v := (-1 : Int32)) hx hb hr (fun t ht hW => ⟨⟨(-1 : Int32), (), rfl, rfl, by rw [ht]; exact hP9, va_K.moved hW.alike hK, hD9⟩, hS.F ht⟩) hS.2.2 d_S_digit_70
        · rw [if_neg c_15] at hf
          refine lv_iload_n hx hb d_S_digit_65 rfl (lv_at hl 0 rfl) ?_
          refine lv_goto (tgt := 70) hx hb d_S_digit_66 (by decide) ?_
          have ho := Option.some.inj hf
          subst o
          have hP9 := hP.sub (ws' := []) [] rfl
          have hD9 := hD.sub (ws' := []) [] (by decide) rfl
          exact W.iret (v := (p0 - (97 : Int32)) + (10 : Int32)) hx hb hr (fun t ht hW => ⟨⟨(p0 - (97 : Int32)) + (10 : Int32), (), rfl, rfl, by rw [ht]; exact hP9, va_K.moved hW.alike hK, hD9⟩, hS.F ht⟩) hS.2.2 d_S_digit_70
  · rw [if_neg c_2] at hf
    refine lv_iload_n hx hb d_S_digit_9 rfl (lv_at hl 1 rfl) ?_
    refine lv_bipush (v := (48 : Int32)) hx hb d_S_digit_10 (by decide) ?_
    refine lv_isub hx hb d_S_digit_12 ?_
    refine lv_istore_n (lv' := [(2, .int (p0 - (48 : Int32))), (0, .int p0), (1, .int p1)]) hx hb d_S_digit_13 rfl hl (by decide) rfl (fun ls hl => ?_)
    refine lv_goto (tgt := 60) hx hb d_S_digit_14 (by decide) ?_
    refine lv_iload_n hx hb d_S_digit_60 rfl (lv_at hl 0 rfl) ?_
    refine lv_iload_n hx hb d_S_digit_61 rfl (lv_at hl 2 rfl) ?_
    refine lv_icmp_ge (tgt := 69) hx hb d_S_digit_62 (by decide) (fun c_16 => ?_) (fun c_16 => ?_)
    · rw [if_pos c_16] at hf
      refine lv_iconst (v := (-1 : Int32)) hx hb d_S_digit_69 (by decide) ?_
      have ho := Option.some.inj hf
      subst o
      have hP9 := hP.sub (ws' := []) [] rfl
      have hD9 := hD.sub (ws' := []) [] (by decide) rfl
      exact W.iret (v := (-1 : Int32)) hx hb hr (fun t ht hW => ⟨⟨(-1 : Int32), (), rfl, rfl, by rw [ht]; exact hP9, va_K.moved hW.alike hK, hD9⟩, hS.F ht⟩) hS.2.2 d_S_digit_70
    · rw [if_neg c_16] at hf
      refine lv_iload_n hx hb d_S_digit_65 rfl (lv_at hl 0 rfl) ?_
      refine lv_goto (tgt := 70) hx hb d_S_digit_66 (by decide) ?_
      have ho := Option.some.inj hf
      subst o
      have hP9 := hP.sub (ws' := []) [] rfl
      have hD9 := hD.sub (ws' := []) [] (by decide) rfl
      exact W.iret (v := p0 - (48 : Int32)) hx hb hr (fun t ht hW => ⟨⟨p0 - (48 : Int32), (), rfl, rfl, by rw [ht]; exact hP9, va_K.moved hW.alike hK, hD9⟩, hS.F ht⟩) hS.2.2 d_S_digit_70

def f_S_hasRoom (p0 : Int64) (p1 : Int32) (p2 : Int32) : Option (Int32) := if p1 = (16 : Int32) then if (lg_cmp ((p0.toUInt64 >>> ((60 : Int32).toInt64.toUInt64 &&& Int64.toUInt64 63)).toInt64) (0 : Int64)) = (0 : Int32) then some ((1 : Int32)) else some ((0 : Int32)) else if p1 = (2 : Int32) then if (lg_cmp ((p0.toUInt64 >>> ((63 : Int32).toInt64.toUInt64 &&& Int64.toUInt64 63)).toInt64) (0 : Int64)) = (0 : Int32) then some ((1 : Int32)) else some ((0 : Int32)) else if (lg_cmp p0 (0 : Int64)) < (0 : Int32) then some ((0 : Int32)) else if (lg_cmp p0 (1844674407370955161 : Int64)) < (0 : Int32) then some ((1 : Int32)) else if (lg_cmp p0 (1844674407370955161 : Int64)) = (0 : Int32) then if (5 : Int32) < p2 then some ((0 : Int32)) else some ((1 : Int32)) else some ((0 : Int32))
set_option maxHeartbeats 4000000 in
set_option maxRecDepth 100000 in
theorem c_S_hasRoom (l : Launch) (dC : Nat → ClassId) (dI : Nat → Nat → Nat) (sz : Nat) (p0 : Int64) (p1 : Int32) (p2 : Int32) (o : Int32) (hf : f_S_hasRoom p0 p1 p2 = some o) : Met l y_S_hasRoom (w_S_hasRoom) ({ frames := 0, cells := 0, slots := 0, locals := 0 }) (va_Pc [.long p0, .int p1, .int p2] (fun U => U.heap.size = sz ∧ va_P (dC, dI) vwCl [] U.heap ∧ va_K (dC, dI) vwCl [] U ∧ va_D (fun _ => True) [] ∧ NW U)) (va_Qi (fun (r : Int32) (_ : Unit) => r = o ∧ narrow .boolean (.int r) = .int r) (fun _ t => va_P (dC, dI) vwCl [] t.heap ∧ va_K (dC, dI) vwCl [] t ∧ va_D (va_A [] sz) []) (va_A [] sz)) 0 0 (va_A [] sz) := by
  refine Met.ofW (cc := b_S_hasRoom) (maxL := 6) (ret := (some .boolean)) (by decide) rfl ?_
  intro p e s m args below meth c s₁ B hml hv
  obtain ⟨rfl, hsz, hP, hK, hD0, hN⟩ := hv
  have hx := B.exec
  have hb := B.bytes
  have hr := B.returns
  have hts : ∀ w ∈ WB, w.before _ s = true := fun w h => atoms_spec (ws := w_S_hasRoom) B.pre w (List.mem_cons_of_mem _ h)
  have hown : s.vm.findClass R_S = some m.cls := findClass_of_methodNamed B.named
  have hlocks := B.notSynchronized
  subst hsz
  have hD := hD0.self (sz := s.heap.size)
  generalize hAe : va_A [] s.heap.size = A at hD ⊢
  have hA : ∀ q : Nat, s.heap.size ≤ q → A q := fun q h => by rw [← hAe]; exact Or.inr h
  have hS : va_S A s.heap s.heap [] := va_S.rf
  have hP : va_P (dC, dI) vwCl [] s.heap := hP
  have hl := lv_entry [.long p0, .int p1, .int p2] (n := 6) (Nat.le_of_ble_eq_true rfl)
  rw [lg_entry_eq]
  generalize (lg_sl [.long p0, .int p1, .int p2] ++ List.replicate (6 - (lg_sl [.long p0, .int p1, .int p2]).length) Slot.unset).toArray = ls at hl ⊢
  have hl : lv_has ls 6 [(0, .long p0), (2, .int p1), (3, .int p2)] := hl
  rw [f_S_hasRoom] at hf
  refine lv_iload_n hx hb d_S_hasRoom_0 rfl (lv_at hl 1 rfl) ?_
  refine lv_bipush (v := (16 : Int32)) hx hb d_S_hasRoom_1 (by decide) ?_
  refine lv_icmp_ne (tgt := 21) hx hb d_S_hasRoom_3 (by decide) (fun c_1 => ?_) (fun c_1 => ?_)
  · rw [if_neg c_1] at hf
    refine lv_iload_n hx hb d_S_hasRoom_21 rfl (lv_at hl 1 rfl) ?_
    refine lv_iconst (v := (2 : Int32)) hx hb d_S_hasRoom_22 (by decide) ?_
    refine lv_icmp_ne (tgt := 41) hx hb d_S_hasRoom_23 (by decide) (fun c_2 => ?_) (fun c_2 => ?_)
    · rw [if_neg c_2] at hf
      refine lv_ldc2 (v := (1844674407370955161 : Int64)) hx hb hown (hts _ wb_25) d_S_hasRoom_41 ?_
      refine lv_lstore (lv' := [(4, .long (1844674407370955161 : Int64)), (0, .long p0), (2, .int p1), (3, .int p2)]) hx hb d_S_hasRoom_44 hl (by decide) rfl (fun ls hl => ?_)
      refine lv_lload_n hx hb d_S_hasRoom_46 rfl (lv_at hl 1 rfl) ?_
      refine lv_lconst (v := (0 : Int64)) hx hb d_S_hasRoom_47 (by decide) ?_
      refine W.lcmp hx hb d_S_hasRoom_48 ?_
      refine lv_if_lt (tgt := 75) hx hb d_S_hasRoom_49 (by decide) (fun c_3 => ?_) (fun c_3 => ?_)
      · rw [if_pos c_3] at hf
        refine lv_iconst (v := (0 : Int32)) hx hb d_S_hasRoom_75 (by decide) ?_
        have ho := Option.some.inj hf
        subst o
        have hP9 := hP.sub (ws' := []) [] rfl
        have hD9 := hD.sub (ws' := []) [] (by decide) rfl
        exact W.zret (v := (0 : Int32)) (ty := .boolean) hx hb hr rfl (fun t ht hW => ⟨⟨(0 : Int32), (), rfl, ⟨rfl, rfl⟩, by rw [ht]; exact hP9, va_K.moved hW.alike hK, hD9⟩, hS.F ht⟩) hS.2.2 d_S_hasRoom_76
      · rw [if_neg c_3] at hf
        refine lv_lload_n hx hb d_S_hasRoom_52 rfl (lv_at hl 1 rfl) ?_
        refine lv_lload hx hb d_S_hasRoom_53 (lv_at hl 0 rfl) ?_
        refine W.lcmp hx hb d_S_hasRoom_55 ?_
        refine lv_if_lt (tgt := 71) hx hb d_S_hasRoom_56 (by decide) (fun c_4 => ?_) (fun c_4 => ?_)
        · rw [if_pos c_4] at hf
          refine lv_iconst (v := (1 : Int32)) hx hb d_S_hasRoom_71 (by decide) ?_
          refine lv_goto (tgt := 76) hx hb d_S_hasRoom_72 (by decide) ?_
          have ho := Option.some.inj hf
          subst o
          have hP9 := hP.sub (ws' := []) [] rfl
          have hD9 := hD.sub (ws' := []) [] (by decide) rfl
          exact W.zret (v := (1 : Int32)) (ty := .boolean) hx hb hr rfl (fun t ht hW => ⟨⟨(1 : Int32), (), rfl, ⟨rfl, rfl⟩, by rw [ht]; exact hP9, va_K.moved hW.alike hK, hD9⟩, hS.F ht⟩) hS.2.2 d_S_hasRoom_76
        · rw [if_neg c_4] at hf
          refine lv_lload_n hx hb d_S_hasRoom_59 rfl (lv_at hl 1 rfl) ?_
          refine lv_lload hx hb d_S_hasRoom_60 (lv_at hl 0 rfl) ?_
          refine W.lcmp hx hb d_S_hasRoom_62 ?_
          refine lv_if_ne (tgt := 75) hx hb d_S_hasRoom_63 (by decide) (fun c_5 => ?_) (fun c_5 => ?_)
          · rw [if_neg c_5] at hf
            refine lv_iconst (v := (0 : Int32)) hx hb d_S_hasRoom_75 (by decide) ?_
            have ho := Option.some.inj hf
            subst o
            have hP9 := hP.sub (ws' := []) [] rfl
            have hD9 := hD.sub (ws' := []) [] (by decide) rfl
            exact W.zret (v := (0 : Int32)) (ty := .boolean) hx hb hr rfl (fun t ht hW => ⟨⟨(0 : Int32), (), rfl, ⟨rfl, rfl⟩, by rw [ht]; exact hP9, va_K.moved hW.alike hK, hD9⟩, hS.F ht⟩) hS.2.2 d_S_hasRoom_76
          · rw [if_pos c_5] at hf
            refine lv_iload_n hx hb d_S_hasRoom_66 rfl (lv_at hl 3 rfl) ?_
            refine lv_iconst (v := (5 : Int32)) hx hb d_S_hasRoom_67 (by decide) ?_
            refine lv_icmp_gt (tgt := 75) hx hb d_S_hasRoom_68 (by decide) (fun c_6 => ?_) (fun c_6 => ?_)
            · rw [if_pos c_6] at hf
              refine lv_iconst (v := (0 : Int32)) hx hb d_S_hasRoom_75 (by decide) ?_
              have ho := Option.some.inj hf
              subst o
              have hP9 := hP.sub (ws' := []) [] rfl
              have hD9 := hD.sub (ws' := []) [] (by decide) rfl
              exact W.zret (v := (0 : Int32)) (ty := .boolean) hx hb hr rfl (fun t ht hW => ⟨⟨(0 : Int32), (), rfl, ⟨rfl, rfl⟩, by rw [ht]; exact hP9, va_K.moved hW.alike hK, hD9⟩, hS.F ht⟩) hS.2.2 d_S_hasRoom_76
            · rw [if_neg c_6] at hf
              refine lv_iconst (v := (1 : Int32)) hx hb d_S_hasRoom_71 (by decide) ?_
              refine lv_goto (tgt := 76) hx hb d_S_hasRoom_72 (by decide) ?_
              have ho := Option.some.inj hf
              subst o
              have hP9 := hP.sub (ws' := []) [] rfl
              have hD9 := hD.sub (ws' := []) [] (by decide) rfl
              exact W.zret (v := (1 : Int32)) (ty := .boolean) hx hb hr rfl (fun t ht hW => ⟨⟨(1 : Int32), (), rfl, ⟨rfl, rfl⟩, by rw [ht]; exact hP9, va_K.moved hW.alike hK, hD9⟩, hS.F ht⟩) hS.2.2 d_S_hasRoom_76
    · rw [if_pos c_2] at hf
      refine lv_lload_n hx hb d_S_hasRoom_26 rfl (lv_at hl 0 rfl) ?_
      refine lv_bipush (v := (63 : Int32)) hx hb d_S_hasRoom_27 (by decide) ?_
      refine lv_lushr (v := (p0.toUInt64 >>> ((63 : Int32).toInt64.toUInt64 &&& Int64.toUInt64 63)).toInt64) hx hb d_S_hasRoom_29 rfl ?_
      refine lv_lconst (v := (0 : Int64)) hx hb d_S_hasRoom_30 (by decide) ?_
      refine W.lcmp hx hb d_S_hasRoom_31 ?_
      refine lv_if_ne (tgt := 39) hx hb d_S_hasRoom_32 (by decide) (fun c_7 => ?_) (fun c_7 => ?_)
      · rw [if_neg c_7] at hf
        refine lv_iconst (v := (0 : Int32)) hx hb d_S_hasRoom_39 (by decide) ?_
        have ho := Option.some.inj hf
        subst o
        have hP9 := hP.sub (ws' := []) [] rfl
        have hD9 := hD.sub (ws' := []) [] (by decide) rfl
        exact W.zret (v := (0 : Int32)) (ty := .boolean) hx hb hr rfl (fun t ht hW => ⟨⟨(0 : Int32), (), rfl, ⟨rfl, rfl⟩, by rw [ht]; exact hP9, va_K.moved hW.alike hK, hD9⟩, hS.F ht⟩) hS.2.2 d_S_hasRoom_40
      · rw [if_pos c_7] at hf
        refine lv_iconst (v := (1 : Int32)) hx hb d_S_hasRoom_35 (by decide) ?_
        refine lv_goto (tgt := 40) hx hb d_S_hasRoom_36 (by decide) ?_
        have ho := Option.some.inj hf
        subst o
        have hP9 := hP.sub (ws' := []) [] rfl
        have hD9 := hD.sub (ws' := []) [] (by decide) rfl
        exact W.zret (v := (1 : Int32)) (ty := .boolean) hx hb hr rfl (fun t ht hW => ⟨⟨(1 : Int32), (), rfl, ⟨rfl, rfl⟩, by rw [ht]; exact hP9, va_K.moved hW.alike hK, hD9⟩, hS.F ht⟩) hS.2.2 d_S_hasRoom_40
  · rw [if_pos c_1] at hf
    refine lv_lload_n hx hb d_S_hasRoom_6 rfl (lv_at hl 0 rfl) ?_
    refine lv_bipush (v := (60 : Int32)) hx hb d_S_hasRoom_7 (by decide) ?_
    refine lv_lushr (v := (p0.toUInt64 >>> ((60 : Int32).toInt64.toUInt64 &&& Int64.toUInt64 63)).toInt64) hx hb d_S_hasRoom_9 rfl ?_
    refine lv_lconst (v := (0 : Int64)) hx hb d_S_hasRoom_10 (by decide) ?_
    refine W.lcmp hx hb d_S_hasRoom_11 ?_
    refine lv_if_ne (tgt := 19) hx hb d_S_hasRoom_12 (by decide) (fun c_8 => ?_) (fun c_8 => ?_)
    · rw [if_neg c_8] at hf
      refine lv_iconst (v := (0 : Int32)) hx hb d_S_hasRoom_19 (by decide) ?_
      have ho := Option.some.inj hf
      subst o
      have hP9 := hP.sub (ws' := []) [] rfl
      have hD9 := hD.sub (ws' := []) [] (by decide) rfl
      exact W.zret (v := (0 : Int32)) (ty := .boolean) hx hb hr rfl (fun t ht hW => ⟨⟨(0 : Int32), (), rfl, ⟨rfl, rfl⟩, by rw [ht]; exact hP9, va_K.moved hW.alike hK, hD9⟩, hS.F ht⟩) hS.2.2 d_S_hasRoom_20
    · rw [if_pos c_8] at hf
      refine lv_iconst (v := (1 : Int32)) hx hb d_S_hasRoom_15 (by decide) ?_
      refine lv_goto (tgt := 20) hx hb d_S_hasRoom_16 (by decide) ?_
      have ho := Option.some.inj hf
      subst o
      have hP9 := hP.sub (ws' := []) [] rfl
      have hD9 := hD.sub (ws' := []) [] (by decide) rfl
      exact W.zret (v := (1 : Int32)) (ty := .boolean) hx hb hr rfl (fun t ht hW => ⟨⟨(1 : Int32), (), rfl, ⟨rfl, rfl⟩, by rw [ht]; exact hP9, va_K.moved hW.alike hK, hD9⟩, hS.F ht⟩) hS.2.2 d_S_hasRoom_20
