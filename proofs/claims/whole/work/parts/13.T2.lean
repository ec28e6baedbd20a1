theorem d_T_cutName_0 : decode b_T_cutName 0 = .ok (.aload_n 1, 1) := by decide +kernel
theorem d_T_cutName_1 : decode b_T_cutName 1 = .ok (.iload_n 2, 1) := by decide +kernel
theorem d_T_cutName_2 : decode b_T_cutName 2 = .ok (.invokestatic 87, 3) := by decide +kernel
theorem d_T_cutName_5 : decode b_T_cutName 5 = .ok (.istore_n 3, 1) := by decide +kernel
theorem d_T_cutName_6 : decode b_T_cutName 6 = .ok (.iload_n 3, 1) := by decide +kernel
theorem d_T_cutName_7 : decode b_T_cutName 7 = .ok (.iload_n 2, 1) := by decide +kernel
theorem d_T_cutName_8 : decode b_T_cutName 8 = .ok (.isub, 1) := by decide +kernel
theorem d_T_cutName_9 : decode b_T_cutName 9 = .ok (.bipush 63, 2) := by decide +kernel
theorem d_T_cutName_11 : decode b_T_cutName 11 = .ok (.if_icmp .le 7, 3) := by decide +kernel
theorem d_T_cutName_14 : decode b_T_cutName 14 = .ok (.iconst (-1), 1) := by decide +kernel
theorem d_T_cutName_15 : decode b_T_cutName 15 = .ok (.goto 11, 3) := by decide +kernel
theorem d_T_cutName_18 : decode b_T_cutName 18 = .ok (.aload_n 0, 1) := by decide +kernel
theorem d_T_cutName_19 : decode b_T_cutName 19 = .ok (.iconst 1, 1) := by decide +kernel
theorem d_T_cutName_20 : decode b_T_cutName 20 = .ok (.iload_n 2, 1) := by decide +kernel
theorem d_T_cutName_21 : decode b_T_cutName 21 = .ok (.iload_n 3, 1) := by decide +kernel
theorem d_T_cutName_22 : decode b_T_cutName 22 = .ok (.lconst 0, 1) := by decide +kernel
theorem d_T_cutName_23 : decode b_T_cutName 23 = .ok (.invokevirtual 90, 3) := by decide +kernel
theorem d_T_cutName_26 : decode b_T_cutName 26 = .ok (.ireturn, 1) := by decide +kernel
theorem d_T_cutNumber_0 : decode b_T_cutNumber 0 = .ok (.aload_n 1, 1) := by decide +kernel
theorem d_T_cutNumber_1 : decode b_T_cutNumber 1 = .ok (.iload_n 2, 1) := by decide +kernel
theorem d_T_cutNumber_2 : decode b_T_cutNumber 2 = .ok (.invokestatic 94, 3) := by decide +kernel
theorem d_T_cutNumber_5 : decode b_T_cutNumber 5 = .ok (.istore_n 3, 1) := by decide +kernel
theorem d_T_cutNumber_6 : decode b_T_cutNumber 6 = .ok (.iload_n 3, 1) := by decide +kernel
theorem d_T_cutNumber_7 : decode b_T_cutNumber 7 = .ok (.bipush 10, 2) := by decide +kernel
theorem d_T_cutNumber_9 : decode b_T_cutNumber 9 = .ok (.if_icmp .ne 7, 3) := by decide +kernel
theorem d_T_cutNumber_12 : decode b_T_cutNumber 12 = .ok (.iload_n 2, 1) := by decide +kernel
theorem d_T_cutNumber_13 : decode b_T_cutNumber 13 = .ok (.goto 6, 3) := by decide +kernel
theorem d_T_cutNumber_16 : decode b_T_cutNumber 16 = .ok (.iload_n 2, 1) := by decide +kernel
theorem d_T_cutNumber_17 : decode b_T_cutNumber 17 = .ok (.iconst 2, 1) := by decide +kernel
theorem d_T_cutNumber_18 : decode b_T_cutNumber 18 = .ok (.iadd, 1) := by decide +kernel
theorem d_T_cutNumber_19 : decode b_T_cutNumber 19 = .ok (.istore 4, 2) := by decide +kernel
theorem d_T_cutNumber_21 : decode b_T_cutNumber 21 = .ok (.aload_n 1, 1) := by decide +kernel
theorem d_T_cutNumber_22 : decode b_T_cutNumber 22 = .ok (.iload_n 2, 1) := by decide +kernel
theorem d_T_cutNumber_23 : decode b_T_cutNumber 23 = .ok (.invokestatic 87, 3) := by decide +kernel
theorem d_T_cutNumber_26 : decode b_T_cutNumber 26 = .ok (.istore 5, 2) := by decide +kernel
theorem d_T_cutNumber_28 : decode b_T_cutNumber 28 = .ok (.iload 4, 2) := by decide +kernel
theorem d_T_cutNumber_30 : decode b_T_cutNumber 30 = .ok (.iload 5, 2) := by decide +kernel
theorem d_T_cutNumber_32 : decode b_T_cutNumber 32 = .ok (.if_icmp .lt 5, 3) := by decide +kernel
theorem d_T_cutNumber_35 : decode b_T_cutNumber 35 = .ok (.iconst (-1), 1) := by decide +kernel
theorem d_T_cutNumber_36 : decode b_T_cutNumber 36 = .ok (.ireturn, 1) := by decide +kernel
theorem d_T_cutNumber_37 : decode b_T_cutNumber 37 = .ok (.lconst 0, 1) := by decide +kernel
theorem d_T_cutNumber_38 : decode b_T_cutNumber 38 = .ok (.lstore 6, 2) := by decide +kernel
theorem d_T_cutNumber_40 : decode b_T_cutNumber 40 = .ok (.iload 4, 2) := by decide +kernel
theorem d_T_cutNumber_42 : decode b_T_cutNumber 42 = .ok (.istore 8, 2) := by decide +kernel
theorem d_T_cutNumber_44 : decode b_T_cutNumber 44 = .ok (.iload 8, 2) := by decide +kernel
theorem d_T_cutNumber_46 : decode b_T_cutNumber 46 = .ok (.iload 5, 2) := by decide +kernel
theorem d_T_cutNumber_48 : decode b_T_cutNumber 48 = .ok (.if_icmp .ge 51, 3) := by decide +kernel
theorem d_T_cutNumber_51 : decode b_T_cutNumber 51 = .ok (.aload_n 1, 1) := by decide +kernel
theorem d_T_cutNumber_52 : decode b_T_cutNumber 52 = .ok (.iload 8, 2) := by decide +kernel
theorem d_T_cutNumber_54 : decode b_T_cutNumber 54 = .ok (.invokevirtual 63, 3) := by decide +kernel
theorem d_T_cutNumber_57 : decode b_T_cutNumber 57 = .ok (.iload_n 3, 1) := by decide +kernel
theorem d_T_cutNumber_58 : decode b_T_cutNumber 58 = .ok (.invokestatic 97, 3) := by decide +kernel
theorem d_T_cutNumber_61 : decode b_T_cutNumber 61 = .ok (.istore 9, 2) := by decide +kernel
theorem d_T_cutNumber_63 : decode b_T_cutNumber 63 = .ok (.iload 9, 2) := by decide +kernel
theorem d_T_cutNumber_65 : decode b_T_cutNumber 65 = .ok (.iconst (-1), 1) := by decide +kernel
theorem d_T_cutNumber_66 : decode b_T_cutNumber 66 = .ok (.if_icmp .eq 14, 3) := by decide +kernel
theorem d_T_cutNumber_69 : decode b_T_cutNumber 69 = .ok (.lload 6, 2) := by decide +kernel
theorem d_T_cutNumber_71 : decode b_T_cutNumber 71 = .ok (.iload_n 3, 1) := by decide +kernel
theorem d_T_cutNumber_72 : decode b_T_cutNumber 72 = .ok (.iload 9, 2) := by decide +kernel
theorem d_T_cutNumber_74 : decode b_T_cutNumber 74 = .ok (.invokestatic 101, 3) := by decide +kernel
theorem d_T_cutNumber_77 : decode b_T_cutNumber 77 = .ok (.ifCond .ne 5, 3) := by decide +kernel
theorem d_T_cutNumber_80 : decode b_T_cutNumber 80 = .ok (.iconst (-1), 1) := by decide +kernel
theorem d_T_cutNumber_81 : decode b_T_cutNumber 81 = .ok (.ireturn, 1) := by decide +kernel
theorem d_T_cutNumber_82 : decode b_T_cutNumber 82 = .ok (.lload 6, 2) := by decide +kernel
theorem d_T_cutNumber_84 : decode b_T_cutNumber 84 = .ok (.iload_n 3, 1) := by decide +kernel
theorem d_T_cutNumber_85 : decode b_T_cutNumber 85 = .ok (.i2l, 1) := by decide +kernel
theorem d_T_cutNumber_86 : decode b_T_cutNumber 86 = .ok (.lmul, 1) := by decide +kernel
theorem d_T_cutNumber_87 : decode b_T_cutNumber 87 = .ok (.iload 9, 2) := by decide +kernel
theorem d_T_cutNumber_89 : decode b_T_cutNumber 89 = .ok (.i2l, 1) := by decide +kernel
theorem d_T_cutNumber_90 : decode b_T_cutNumber 90 = .ok (.ladd, 1) := by decide +kernel
theorem d_T_cutNumber_91 : decode b_T_cutNumber 91 = .ok (.lstore 6, 2) := by decide +kernel
theorem d_T_cutNumber_93 : decode b_T_cutNumber 93 = .ok (.iinc 8 1, 3) := by decide +kernel
theorem d_T_cutNumber_96 : decode b_T_cutNumber 96 = .ok (.goto (-52), 3) := by decide +kernel
theorem d_T_cutNumber_99 : decode b_T_cutNumber 99 = .ok (.aload_n 0, 1) := by decide +kernel
theorem d_T_cutNumber_100 : decode b_T_cutNumber 100 = .ok (.iconst 2, 1) := by decide +kernel
theorem d_T_cutNumber_101 : decode b_T_cutNumber 101 = .ok (.iload_n 2, 1) := by decide +kernel
theorem d_T_cutNumber_102 : decode b_T_cutNumber 102 = .ok (.iload 5, 2) := by decide +kernel
theorem d_T_cutNumber_104 : decode b_T_cutNumber 104 = .ok (.lload 6, 2) := by decide +kernel
theorem d_T_cutNumber_106 : decode b_T_cutNumber 106 = .ok (.invokevirtual 90, 3) := by decide +kernel
theorem d_T_cutNumber_109 : decode b_T_cutNumber 109 = .ok (.ireturn, 1) := by decide +kernel
theorem d_T_cutCharacter_0 : decode b_T_cutCharacter 0 = .ok (.aload_n 1, 1) := by decide +kernel
theorem d_T_cutCharacter_1 : decode b_T_cutCharacter 1 = .ok (.iload_n 2, 1) := by decide +kernel
theorem d_T_cutCharacter_2 : decode b_T_cutCharacter 2 = .ok (.iconst 1, 1) := by decide +kernel
theorem d_T_cutCharacter_3 : decode b_T_cutCharacter 3 = .ok (.iadd, 1) := by decide +kernel
theorem d_T_cutCharacter_4 : decode b_T_cutCharacter 4 = .ok (.bipush 39, 2) := by decide +kernel
theorem d_T_cutCharacter_6 : decode b_T_cutCharacter 6 = .ok (.invokestatic 105, 3) := by decide +kernel
theorem d_T_cutCharacter_9 : decode b_T_cutCharacter 9 = .ok (.istore_n 3, 1) := by decide +kernel
theorem d_T_cutCharacter_10 : decode b_T_cutCharacter 10 = .ok (.iload_n 2, 1) := by decide +kernel
theorem d_T_cutCharacter_11 : decode b_T_cutCharacter 11 = .ok (.iconst 1, 1) := by decide +kernel
theorem d_T_cutCharacter_12 : decode b_T_cutCharacter 12 = .ok (.iadd, 1) := by decide +kernel
theorem d_T_cutCharacter_13 : decode b_T_cutCharacter 13 = .ok (.iload_n 3, 1) := by decide +kernel
theorem d_T_cutCharacter_14 : decode b_T_cutCharacter 14 = .ok (.iadd, 1) := by decide +kernel
theorem d_T_cutCharacter_15 : decode b_T_cutCharacter 15 = .ok (.istore 4, 2) := by decide +kernel
theorem d_T_cutCharacter_17 : decode b_T_cutCharacter 17 = .ok (.iload_n 3, 1) := by decide +kernel
theorem d_T_cutCharacter_18 : decode b_T_cutCharacter 18 = .ok (.ifCond .eq 28, 3) := by decide +kernel
theorem d_T_cutCharacter_21 : decode b_T_cutCharacter 21 = .ok (.aload_n 1, 1) := by decide +kernel
theorem d_T_cutCharacter_22 : decode b_T_cutCharacter 22 = .ok (.iload 4, 2) := by decide +kernel
theorem d_T_cutCharacter_24 : decode b_T_cutCharacter 24 = .ok (.invokevirtual 63, 3) := by decide +kernel
theorem d_T_cutCharacter_27 : decode b_T_cutCharacter 27 = .ok (.bipush 39, 2) := by decide +kernel
theorem d_T_cutCharacter_29 : decode b_T_cutCharacter 29 = .ok (.if_icmp .ne 17, 3) := by decide +kernel
theorem d_T_cutCharacter_32 : decode b_T_cutCharacter 32 = .ok (.aload_n 1, 1) := by decide +kernel
theorem d_T_cutCharacter_33 : decode b_T_cutCharacter 33 = .ok (.iload 4, 2) := by decide +kernel
theorem d_T_cutCharacter_35 : decode b_T_cutCharacter 35 = .ok (.iconst 1, 1) := by decide +kernel
theorem d_T_cutCharacter_36 : decode b_T_cutCharacter 36 = .ok (.iadd, 1) := by decide +kernel
theorem d_T_cutCharacter_37 : decode b_T_cutCharacter 37 = .ok (.invokevirtual 63, 3) := by decide +kernel
theorem d_T_cutCharacter_40 : decode b_T_cutCharacter 40 = .ok (.invokestatic 72, 3) := by decide +kernel
theorem d_T_cutCharacter_43 : decode b_T_cutCharacter 43 = .ok (.ifCond .eq 5, 3) := by decide +kernel
theorem d_T_cutCharacter_46 : decode b_T_cutCharacter 46 = .ok (.iconst (-1), 1) := by decide +kernel
theorem d_T_cutCharacter_47 : decode b_T_cutCharacter 47 = .ok (.ireturn, 1) := by decide +kernel
theorem d_T_cutCharacter_48 : decode b_T_cutCharacter 48 = .ok (.aload_n 1, 1) := by decide +kernel
theorem d_T_cutCharacter_49 : decode b_T_cutCharacter 49 = .ok (.iload 4, 2) := by decide +kernel
theorem d_T_cutCharacter_51 : decode b_T_cutCharacter 51 = .ok (.iconst 1, 1) := by decide +kernel
theorem d_T_cutCharacter_52 : decode b_T_cutCharacter 52 = .ok (.isub, 1) := by decide +kernel
theorem d_T_cutCharacter_53 : decode b_T_cutCharacter 53 = .ok (.invokevirtual 63, 3) := by decide +kernel
theorem d_T_cutCharacter_56 : decode b_T_cutCharacter 56 = .ok (.istore 5, 2) := by decide +kernel
theorem d_T_cutCharacter_58 : decode b_T_cutCharacter 58 = .ok (.aload_n 0, 1) := by decide +kernel
theorem d_T_cutCharacter_59 : decode b_T_cutCharacter 59 = .ok (.iconst 2, 1) := by decide +kernel
theorem d_T_cutCharacter_60 : decode b_T_cutCharacter 60 = .ok (.iload_n 2, 1) := by decide +kernel
theorem d_T_cutCharacter_61 : decode b_T_cutCharacter 61 = .ok (.iload 4, 2) := by decide +kernel
theorem d_T_cutCharacter_63 : decode b_T_cutCharacter 63 = .ok (.iconst 1, 1) := by decide +kernel
theorem d_T_cutCharacter_64 : decode b_T_cutCharacter 64 = .ok (.iadd, 1) := by decide +kernel
theorem d_T_cutCharacter_65 : decode b_T_cutCharacter 65 = .ok (.iload_n 3, 1) := by decide +kernel
theorem d_T_cutCharacter_66 : decode b_T_cutCharacter 66 = .ok (.iconst 2, 1) := by decide +kernel
theorem d_T_cutCharacter_67 : decode b_T_cutCharacter 67 = .ok (.if_icmp .ne 12, 3) := by decide +kernel
theorem d_T_cutCharacter_70 : decode b_T_cutCharacter 70 = .ok (.iload 5, 2) := by decide +kernel
theorem d_T_cutCharacter_72 : decode b_T_cutCharacter 72 = .ok (.invokestatic 109, 3) := by decide +kernel
theorem d_T_cutCharacter_75 : decode b_T_cutCharacter 75 = .ok (.i2l, 1) := by decide +kernel
theorem d_T_cutCharacter_76 : decode b_T_cutCharacter 76 = .ok (.goto 6, 3) := by decide +kernel
theorem d_T_cutCharacter_79 : decode b_T_cutCharacter 79 = .ok (.iload 5, 2) := by decide +kernel
theorem d_T_cutCharacter_81 : decode b_T_cutCharacter 81 = .ok (.i2l, 1) := by decide +kernel
theorem d_T_cutCharacter_82 : decode b_T_cutCharacter 82 = .ok (.invokevirtual 90, 3) := by decide +kernel
theorem d_T_cutCharacter_85 : decode b_T_cutCharacter 85 = .ok (.ireturn, 1) := by decide +kernel
theorem d_T_cutText_0 : decode b_T_cutText 0 = .ok (.aload_n 1, 1) := by decide +kernel
theorem d_T_cutText_1 : decode b_T_cutText 1 = .ok (.iload_n 2, 1) := by decide +kernel
theorem d_T_cutText_2 : decode b_T_cutText 2 = .ok (.iconst 1, 1) := by decide +kernel
theorem d_T_cutText_3 : decode b_T_cutText 3 = .ok (.iadd, 1) := by decide +kernel
theorem d_T_cutText_4 : decode b_T_cutText 4 = .ok (.bipush 34, 2) := by decide +kernel
theorem d_T_cutText_6 : decode b_T_cutText 6 = .ok (.invokestatic 112, 3) := by decide +kernel
theorem d_T_cutText_9 : decode b_T_cutText 9 = .ok (.istore_n 3, 1) := by decide +kernel
theorem d_T_cutText_10 : decode b_T_cutText 10 = .ok (.aload_n 1, 1) := by decide +kernel
theorem d_T_cutText_11 : decode b_T_cutText 11 = .ok (.iload_n 3, 1) := by decide +kernel
theorem d_T_cutText_12 : decode b_T_cutText 12 = .ok (.invokevirtual 63, 3) := by decide +kernel
theorem d_T_cutText_15 : decode b_T_cutText 15 = .ok (.bipush 34, 2) := by decide +kernel
theorem d_T_cutText_17 : decode b_T_cutText 17 = .ok (.if_icmp .eq 7, 3) := by decide +kernel
theorem d_T_cutText_20 : decode b_T_cutText 20 = .ok (.iconst (-1), 1) := by decide +kernel
theorem d_T_cutText_21 : decode b_T_cutText 21 = .ok (.goto 13, 3) := by decide +kernel
theorem d_T_cutText_24 : decode b_T_cutText 24 = .ok (.aload_n 0, 1) := by decide +kernel
theorem d_T_cutText_25 : decode b_T_cutText 25 = .ok (.iconst 3, 1) := by decide +kernel
theorem d_T_cutText_26 : decode b_T_cutText 26 = .ok (.iload_n 2, 1) := by decide +kernel
theorem d_T_cutText_27 : decode b_T_cutText 27 = .ok (.iload_n 3, 1) := by decide +kernel
theorem d_T_cutText_28 : decode b_T_cutText 28 = .ok (.iconst 1, 1) := by decide +kernel
theorem d_T_cutText_29 : decode b_T_cutText 29 = .ok (.iadd, 1) := by decide +kernel
theorem d_T_cutText_30 : decode b_T_cutText 30 = .ok (.lconst 0, 1) := by decide +kernel
theorem d_T_cutText_31 : decode b_T_cutText 31 = .ok (.invokevirtual 90, 3) := by decide +kernel
theorem d_T_cutText_34 : decode b_T_cutText 34 = .ok (.ireturn, 1) := by decide +kernel
theorem d_T_cutSign_0 : decode b_T_cutSign 0 = .ok (.aload_n 1, 1) := by decide +kernel
theorem d_T_cutSign_1 : decode b_T_cutSign 1 = .ok (.iload_n 2, 1) := by decide +kernel
theorem d_T_cutSign_2 : decode b_T_cutSign 2 = .ok (.invokestatic 115, 3) := by decide +kernel
theorem d_T_cutSign_5 : decode b_T_cutSign 5 = .ok (.istore_n 3, 1) := by decide +kernel
theorem d_T_cutSign_6 : decode b_T_cutSign 6 = .ok (.iload_n 3, 1) := by decide +kernel
theorem d_T_cutSign_7 : decode b_T_cutSign 7 = .ok (.ifCond .ne 7, 3) := by decide +kernel
theorem d_T_cutSign_10 : decode b_T_cutSign 10 = .ok (.iconst (-1), 1) := by decide +kernel
theorem d_T_cutSign_11 : decode b_T_cutSign 11 = .ok (.goto 18, 3) := by decide +kernel
theorem d_T_cutSign_14 : decode b_T_cutSign 14 = .ok (.aload_n 0, 1) := by decide +kernel
theorem d_T_cutSign_15 : decode b_T_cutSign 15 = .ok (.iconst 4, 1) := by decide +kernel
theorem d_T_cutSign_16 : decode b_T_cutSign 16 = .ok (.iload_n 2, 1) := by decide +kernel
theorem d_T_cutSign_17 : decode b_T_cutSign 17 = .ok (.iload_n 2, 1) := by decide +kernel
theorem d_T_cutSign_18 : decode b_T_cutSign 18 = .ok (.iload_n 3, 1) := by decide +kernel
theorem d_T_cutSign_19 : decode b_T_cutSign 19 = .ok (.iadd, 1) := by decide +kernel
theorem d_T_cutSign_20 : decode b_T_cutSign 20 = .ok (.aload_n 1, 1) := by decide +kernel
theorem d_T_cutSign_21 : decode b_T_cutSign 21 = .ok (.iload_n 2, 1) := by decide +kernel
theorem d_T_cutSign_22 : decode b_T_cutSign 22 = .ok (.invokevirtual 63, 3) := by decide +kernel
theorem d_T_cutSign_25 : decode b_T_cutSign 25 = .ok (.i2l, 1) := by decide +kernel
theorem d_T_cutSign_26 : decode b_T_cutSign 26 = .ok (.invokevirtual 90, 3) := by decide +kernel
theorem d_T_cutSign_29 : decode b_T_cutSign 29 = .ok (.ireturn, 1) := by decide +kernel
theorem d_T_cutOne_0 : decode b_T_cutOne 0 = .ok (.aload_n 1, 1) := by decide +kernel
theorem d_T_cutOne_1 : decode b_T_cutOne 1 = .ok (.iload_n 2, 1) := by decide +kernel
theorem d_T_cutOne_2 : decode b_T_cutOne 2 = .ok (.invokevirtual 63, 3) := by decide +kernel
theorem d_T_cutOne_5 : decode b_T_cutOne 5 = .ok (.istore_n 3, 1) := by decide +kernel
theorem d_T_cutOne_6 : decode b_T_cutOne 6 = .ok (.iload_n 3, 1) := by decide +kernel
theorem d_T_cutOne_7 : decode b_T_cutOne 7 = .ok (.invokestatic 66, 3) := by decide +kernel
theorem d_T_cutOne_10 : decode b_T_cutOne 10 = .ok (.ifCond .eq 10, 3) := by decide +kernel
theorem d_T_cutOne_13 : decode b_T_cutOne 13 = .ok (.aload_n 0, 1) := by decide +kernel
theorem d_T_cutOne_14 : decode b_T_cutOne 14 = .ok (.aload_n 1, 1) := by decide +kernel
theorem d_T_cutOne_15 : decode b_T_cutOne 15 = .ok (.iload_n 2, 1) := by decide +kernel
theorem d_T_cutOne_16 : decode b_T_cutOne 16 = .ok (.invokevirtual 69, 3) := by decide +kernel
theorem d_T_cutOne_19 : decode b_T_cutOne 19 = .ok (.ireturn, 1) := by decide +kernel
theorem d_T_cutOne_20 : decode b_T_cutOne 20 = .ok (.iload_n 3, 1) := by decide +kernel
theorem d_T_cutOne_21 : decode b_T_cutOne 21 = .ok (.invokestatic 72, 3) := by decide +kernel
theorem d_T_cutOne_24 : decode b_T_cutOne 24 = .ok (.ifCond .eq 10, 3) := by decide +kernel
theorem d_T_cutOne_27 : decode b_T_cutOne 27 = .ok (.aload_n 0, 1) := by decide +kernel
theorem d_T_cutOne_28 : decode b_T_cutOne 28 = .ok (.aload_n 1, 1) := by decide +kernel
theorem d_T_cutOne_29 : decode b_T_cutOne 29 = .ok (.iload_n 2, 1) := by decide +kernel
theorem d_T_cutOne_30 : decode b_T_cutOne 30 = .ok (.invokevirtual 75, 3) := by decide +kernel
theorem d_T_cutOne_33 : decode b_T_cutOne 33 = .ok (.ireturn, 1) := by decide +kernel
theorem d_T_cutOne_34 : decode b_T_cutOne 34 = .ok (.iload_n 3, 1) := by decide +kernel
theorem d_T_cutOne_35 : decode b_T_cutOne 35 = .ok (.bipush 39, 2) := by decide +kernel
theorem d_T_cutOne_37 : decode b_T_cutOne 37 = .ok (.if_icmp .ne 10, 3) := by decide +kernel
theorem d_T_cutOne_40 : decode b_T_cutOne 40 = .ok (.aload_n 0, 1) := by decide +kernel
theorem d_T_cutOne_41 : decode b_T_cutOne 41 = .ok (.aload_n 1, 1) := by decide +kernel
theorem d_T_cutOne_42 : decode b_T_cutOne 42 = .ok (.iload_n 2, 1) := by decide +kernel
theorem d_T_cutOne_43 : decode b_T_cutOne 43 = .ok (.invokevirtual 78, 3) := by decide +kernel
theorem d_T_cutOne_46 : decode b_T_cutOne 46 = .ok (.ireturn, 1) := by decide +kernel
theorem d_T_cutOne_47 : decode b_T_cutOne 47 = .ok (.iload_n 3, 1) := by decide +kernel
theorem d_T_cutOne_48 : decode b_T_cutOne 48 = .ok (.bipush 34, 2) := by decide +kernel
theorem d_T_cutOne_50 : decode b_T_cutOne 50 = .ok (.if_icmp .ne 12, 3) := by decide +kernel
theorem d_T_cutOne_53 : decode b_T_cutOne 53 = .ok (.aload_n 0, 1) := by decide +kernel
theorem d_T_cutOne_54 : decode b_T_cutOne 54 = .ok (.aload_n 1, 1) := by decide +kernel
theorem d_T_cutOne_55 : decode b_T_cutOne 55 = .ok (.iload_n 2, 1) := by decide +kernel
theorem d_T_cutOne_56 : decode b_T_cutOne 56 = .ok (.invokevirtual 81, 3) := by decide +kernel
theorem d_T_cutOne_59 : decode b_T_cutOne 59 = .ok (.goto 9, 3) := by decide +kernel
theorem d_T_cutOne_62 : decode b_T_cutOne 62 = .ok (.aload_n 0, 1) := by decide +kernel
theorem d_T_cutOne_63 : decode b_T_cutOne 63 = .ok (.aload_n 1, 1) := by decide +kernel
theorem d_T_cutOne_64 : decode b_T_cutOne 64 = .ok (.iload_n 2, 1) := by decide +kernel
theorem d_T_cutOne_65 : decode b_T_cutOne 65 = .ok (.invokevirtual 84, 3) := by decide +kernel
theorem d_T_cutOne_68 : decode b_T_cutOne 68 = .ok (.ireturn, 1) := by decide +kernel
theorem d_T_cut_0 : decode b_T_cut 0 = .ok (.aload_n 0, 1) := by decide +kernel
theorem d_T_cut_1 : decode b_T_cut 1 = .ok (.iconst 0, 1) := by decide +kernel
theorem d_T_cut_2 : decode b_T_cut 2 = .ok (.putfield 26, 3) := by decide +kernel
theorem d_T_cut_5 : decode b_T_cut 5 = .ok (.aload_n 0, 1) := by decide +kernel
theorem d_T_cut_6 : decode b_T_cut 6 = .ok (.iconst 1, 1) := by decide +kernel
theorem d_T_cut_7 : decode b_T_cut 7 = .ok (.putfield 30, 3) := by decide +kernel
theorem d_T_cut_10 : decode b_T_cut 10 = .ok (.aload_n 1, 1) := by decide +kernel
theorem d_T_cut_11 : decode b_T_cut 11 = .ok (.iconst 0, 1) := by decide +kernel
theorem d_T_cut_12 : decode b_T_cut 12 = .ok (.invokestatic 34, 3) := by decide +kernel
theorem d_T_cut_15 : decode b_T_cut 15 = .ok (.istore_n 2, 1) := by decide +kernel
theorem d_T_cut_16 : decode b_T_cut 16 = .ok (.iconst 0, 1) := by decide +kernel
theorem d_T_cut_17 : decode b_T_cut 17 = .ok (.istore_n 3, 1) := by decide +kernel
theorem d_T_cut_18 : decode b_T_cut 18 = .ok (.iload_n 3, 1) := by decide +kernel
theorem d_T_cut_19 : decode b_T_cut 19 = .ok (.sipush 1024, 3) := by decide +kernel
theorem d_T_cut_22 : decode b_T_cut 22 = .ok (.if_icmp .ge 44, 3) := by decide +kernel
theorem d_T_cut_25 : decode b_T_cut 25 = .ok (.iload_n 2, 1) := by decide +kernel
theorem d_T_cut_26 : decode b_T_cut 26 = .ok (.aload_n 1, 1) := by decide +kernel
theorem d_T_cut_27 : decode b_T_cut 27 = .ok (.invokevirtual 40, 3) := by decide +kernel
theorem d_T_cut_30 : decode b_T_cut 30 = .ok (.if_icmp .ge 36, 3) := by decide +kernel
theorem d_T_cut_33 : decode b_T_cut 33 = .ok (.aload_n 0, 1) := by decide +kernel
theorem d_T_cut_34 : decode b_T_cut 34 = .ok (.aload_n 1, 1) := by decide +kernel
theorem d_T_cut_35 : decode b_T_cut 35 = .ok (.iload_n 2, 1) := by decide +kernel
theorem d_T_cut_36 : decode b_T_cut 36 = .ok (.invokevirtual 46, 3) := by decide +kernel
theorem d_T_cut_39 : decode b_T_cut 39 = .ok (.istore 4, 2) := by decide +kernel
theorem d_T_cut_41 : decode b_T_cut 41 = .ok (.iload 4, 2) := by decide +kernel
theorem d_T_cut_43 : decode b_T_cut 43 = .ok (.iconst (-1), 1) := by decide +kernel
theorem d_T_cut_44 : decode b_T_cut 44 = .ok (.if_icmp .ne 9, 3) := by decide +kernel
theorem d_T_cut_47 : decode b_T_cut 47 = .ok (.aload_n 0, 1) := by decide +kernel
theorem d_T_cut_48 : decode b_T_cut 48 = .ok (.iconst 0, 1) := by decide +kernel
theorem d_T_cut_49 : decode b_T_cut 49 = .ok (.putfield 30, 3) := by decide +kernel
theorem d_T_cut_52 : decode b_T_cut 52 = .ok (.return_, 1) := by decide +kernel
theorem d_T_cut_53 : decode b_T_cut 53 = .ok (.aload_n 1, 1) := by decide +kernel
theorem d_T_cut_54 : decode b_T_cut 54 = .ok (.iload 4, 2) := by decide +kernel
theorem d_T_cut_56 : decode b_T_cut 56 = .ok (.invokestatic 34, 3) := by decide +kernel
theorem d_T_cut_59 : decode b_T_cut 59 = .ok (.istore_n 2, 1) := by decide +kernel
theorem d_T_cut_60 : decode b_T_cut 60 = .ok (.iinc 3 1, 3) := by decide +kernel
theorem d_T_cut_63 : decode b_T_cut 63 = .ok (.goto (-45), 3) := by decide +kernel
theorem d_T_cut_66 : decode b_T_cut 66 = .ok (.return_, 1) := by decide +kernel
theorem wb_46 : Cond.methodLink R_T 87 y_S_endOfName ∈ WB := wbm (i := 255) (by decide +kernel) rfl
theorem wb_47 : Cond.code y_S_endOfName b_S_endOfName 3 (some .int) ∈ WB := wbm (i := 257) (by decide +kernel) rfl
theorem wb_48 : Cond.static y_S_endOfName ∈ WB := wbm (i := 256) (by decide +kernel) rfl
theorem wb_49 : Cond.methodLink R_T 90 y_T_keep ∈ WB := wbm (i := 269) (by decide +kernel) rfl
theorem wb_50 : Cond.code y_T_keep b_T_keep 6 (some .int) ∈ WB := wbm (i := 272) (by decide +kernel) rfl
theorem wb_51 : Cond.instanceMethod y_T_keep ∈ WB := wbm (i := 271) (by decide +kernel) rfl
theorem wb_52 : Cond.selects R_T y_T_keep y_T_keep ∈ WB := wbm (i := 3) (by decide +kernel) rfl
theorem wb_53 : Cond.methodLink R_T 94 y_S_baseOfNumber ∈ WB := wbm (i := 252) (by decide +kernel) rfl
theorem wb_54 : Cond.code y_S_baseOfNumber b_S_baseOfNumber 3 (some .int) ∈ WB := wbm (i := 254) (by decide +kernel) rfl
theorem wb_55 : Cond.static y_S_baseOfNumber ∈ WB := wbm (i := 253) (by decide +kernel) rfl
theorem wb_56 : Cond.methodLink R_T 63 y_L_at ∈ WB := wbm (i := 244) (by decide +kernel) rfl
theorem wb_57 : Cond.methodLink R_T 97 y_S_digit ∈ WB := wbm (i := 262) (by decide +kernel) rfl
theorem wb_58 : Cond.code y_S_digit b_S_digit 3 (some .int) ∈ WB := wbm (i := 264) (by decide +kernel) rfl
theorem wb_59 : Cond.static y_S_digit ∈ WB := wbm (i := 263) (by decide +kernel) rfl
theorem wb_60 : Cond.methodLink R_T 101 y_S_hasRoom ∈ WB := wbm (i := 265) (by decide +kernel) rfl
theorem wb_61 : Cond.code y_S_hasRoom b_S_hasRoom 6 (some .boolean) ∈ WB := wbm (i := 267) (by decide +kernel) rfl
theorem wb_62 : Cond.static y_S_hasRoom ∈ WB := wbm (i := 266) (by decide +kernel) rfl
theorem wb_63 : Cond.methodLink R_T 105 y_S_widthOfCharacter ∈ WB := wbm (i := 282) (by decide +kernel) rfl
theorem wb_64 : Cond.methodLink R_T 72 y_S_isOfNames ∈ WB := wbm (i := 273) (by decide +kernel) rfl
theorem wb_65 : Cond.methodLink R_T 109 y_S_worthOfEscape ∈ WB := wbm (i := 288) (by decide +kernel) rfl
theorem wb_66 : Cond.code y_S_worthOfEscape b_S_worthOfEscape 1 (some .int) ∈ WB := wbm (i := 290) (by decide +kernel) rfl
theorem wb_67 : Cond.static y_S_worthOfEscape ∈ WB := wbm (i := 289) (by decide +kernel) rfl
theorem wb_68 : Cond.methodLink R_T 112 y_S_endOfCharacters ∈ WB := wbm (i := 295) (by decide +kernel) rfl
theorem wb_69 : Cond.code y_S_endOfCharacters b_S_endOfCharacters 6 (some .int) ∈ WB := wbm (i := 297) (by decide +kernel) rfl
theorem wb_70 : Cond.static y_S_endOfCharacters ∈ WB := wbm (i := 296) (by decide +kernel) rfl
theorem wb_71 : Cond.methodLink R_T 115 y_S_widthOfSign ∈ WB := wbm (i := 303) (by decide +kernel) rfl
theorem wb_72 : Cond.code y_S_widthOfSign b_S_widthOfSign 3 (some .int) ∈ WB := wbm (i := 305) (by decide +kernel) rfl
theorem wb_73 : Cond.static y_S_widthOfSign ∈ WB := wbm (i := 304) (by decide +kernel) rfl
theorem wb_74 : Cond.methodLink R_T 66 y_S_isDigit ∈ WB := wbm (i := 245) (by decide +kernel) rfl
theorem wb_75 : Cond.methodLink R_T 84 y_T_cutSign ∈ WB := wbm (i := 299) (by decide +kernel) rfl
theorem wb_76 : Cond.code y_T_cutSign b_T_cutSign 4 (some .int) ∈ WB := wbm (i := 302) (by decide +kernel) rfl
theorem wb_77 : Cond.instanceMethod y_T_cutSign ∈ WB := wbm (i := 301) (by decide +kernel) rfl
theorem wb_78 : Cond.selects R_T y_T_cutSign y_T_cutSign ∈ WB := wbm (i := 7) (by decide +kernel) rfl
theorem wb_79 : Cond.methodLink R_T 81 y_T_cutText ∈ WB := wbm (i := 291) (by decide +kernel) rfl
theorem wb_80 : Cond.code y_T_cutText b_T_cutText 4 (some .int) ∈ WB := wbm (i := 294) (by decide +kernel) rfl
theorem wb_81 : Cond.instanceMethod y_T_cutText ∈ WB := wbm (i := 293) (by decide +kernel) rfl
theorem wb_82 : Cond.selects R_T y_T_cutText y_T_cutText ∈ WB := wbm (i := 6) (by decide +kernel) rfl
theorem wb_83 : Cond.methodLink R_T 78 y_T_cutCharacter ∈ WB := wbm (i := 278) (by decide +kernel) rfl
theorem wb_84 : Cond.code y_T_cutCharacter b_T_cutCharacter 6 (some .int) ∈ WB := wbm (i := 281) (by decide +kernel) rfl
theorem wb_85 : Cond.instanceMethod y_T_cutCharacter ∈ WB := wbm (i := 280) (by decide +kernel) rfl
theorem wb_86 : Cond.selects R_T y_T_cutCharacter y_T_cutCharacter ∈ WB := wbm (i := 5) (by decide +kernel) rfl
theorem wb_87 : Cond.methodLink R_T 75 y_T_cutName ∈ WB := wbm (i := 274) (by decide +kernel) rfl
theorem wb_88 : Cond.code y_T_cutName b_T_cutName 4 (some .int) ∈ WB := wbm (i := 277) (by decide +kernel) rfl
theorem wb_89 : Cond.instanceMethod y_T_cutName ∈ WB := wbm (i := 276) (by decide +kernel) rfl
theorem wb_90 : Cond.selects R_T y_T_cutName y_T_cutName ∈ WB := wbm (i := 4) (by decide +kernel) rfl
theorem wb_91 : Cond.methodLink R_T 69 y_T_cutNumber ∈ WB := wbm (i := 248) (by decide +kernel) rfl
theorem wb_92 : Cond.code y_T_cutNumber b_T_cutNumber 10 (some .int) ∈ WB := wbm (i := 251) (by decide +kernel) rfl
theorem wb_93 : Cond.instanceMethod y_T_cutNumber ∈ WB := wbm (i := 250) (by decide +kernel) rfl
theorem wb_94 : Cond.selects R_T y_T_cutNumber y_T_cutNumber ∈ WB := wbm (i := 2) (by decide +kernel) rfl
theorem wb_95 : Cond.methodLink R_T 34 y_S_nextStart ∈ WB := wbm (i := 228) (by decide +kernel) rfl
theorem wb_96 : Cond.code y_S_nextStart b_S_nextStart 4 (some .int) ∈ WB := wbm (i := 230) (by decide +kernel) rfl
theorem wb_97 : Cond.static y_S_nextStart ∈ WB := wbm (i := 229) (by decide +kernel) rfl
theorem wb_98 : Cond.methodLink R_T 40 y_L_size ∈ WB := wbm (i := 239) (by decide +kernel) rfl
theorem wb_99 : Cond.methodLink R_T 46 y_T_cutOne ∈ WB := wbm (i := 240) (by decide +kernel) rfl
theorem wb_100 : Cond.code y_T_cutOne b_T_cutOne 4 (some .int) ∈ WB := wbm (i := 243) (by decide +kernel) rfl
theorem wb_101 : Cond.instanceMethod y_T_cutOne ∈ WB := wbm (i := 242) (by decide +kernel) rfl
theorem wb_102 : Cond.selects R_T y_T_cutOne y_T_cutOne ∈ WB := wbm (i := 1) (by decide +kernel) rfl
def f_T_cutName (tn : Int32) (tk : Nat → Int32) (tb : Nat → Int32) (te : Nat → Int32) (tw : Nat → Int64) (ln : Int32) (lb : Nat → Int32) (p1 : Int32) : Option (Int32 × Int32 × (Nat → Int32) × (Nat → Int32) × (Nat → Int32) × (Nat → Int64)) := (f_S_endOfName ln lb p1).bind (fun o_1 => if (o_1 - p1) ≤ (63 : Int32) then (f_T_keep tn tk tb te tw (1 : Int32) p1 o_1 (0 : Int64)).bind (fun o_3 => some (o_3.1, o_3.2.1, o_3.2.2.1, o_3.2.2.2.1, o_3.2.2.2.2.1, o_3.2.2.2.2.2)) else some ((-1 : Int32), tn, tk, tb, te, tw))
set_option maxHeartbeats 4000000 in
set_option maxRecDepth 100000 in
theorem c_T_cutName (l : Launch) (dC : Nat → ClassId) (dI : Nat → Nat → Nat) (aT aK aG aE aW aL aB : Nat) (cK cG cE cW cB : ClassId) (sz : Nat) (tn : Int32) (ts : Int32) (tk : Nat → Int32) (tb : Nat → Int32) (te : Nat → Int32) (tw : Nat → Int64) (ln : Int32) (lb : Nat → Int32) (p1 : Int32) (o : Int32 × Int32 × (Nat → Int32) × (Nat → Int32) × (Nat → Int32) × (Nat → Int64)) (hf : f_T_cutName tn tk tb te tw ln lb p1 = some o) : Met l y_T_cutName (w_T_cutName) ({ frames := 3, cells := 0, slots := 0, locals := 62 }) (va_Pc [.ref aT, .ref aL, .int p1] (fun U => U.heap.size = sz ∧ va_P (dC, dI) vwCl [(aT, .inr (2, [.ref aK, .ref aG, .ref aE, .ref aW, .int tn, .int ts])), (aK, .inl (cK, 1024, .inl tk)), (aG, .inl (cG, 1024, .inl tb)), (aE, .inl (cE, 1024, .inl te)), (aW, .inl (cW, 1024, .inr (.inl tw))), (aL, .inr (1, [.ref aB, .int ln])), (aB, .inl (cB, 1024, .inl lb))] U.heap ∧ va_K (dC, dI) vwCl [(cK, .byte), (cG, .int), (cE, .int), (cW, .long), (cB, .byte)] U ∧ va_D (fun _ => True) [(aT, .inr (2, [.ref aK, .ref aG, .ref aE, .ref aW, .int tn, .int ts])), (aK, .inl (cK, 1024, .inl tk)), (aG, .inl (cG, 1024, .inl tb)), (aE, .inl (cE, 1024, .inl te)), (aW, .inl (cW, 1024, .inr (.inl tw))), (aL, .inr (1, [.ref aB, .int ln])), (aB, .inl (cB, 1024, .inl lb))] ∧ NW U)) (va_Qi (fun (r : Int32) (_ : Unit) => r = o.1) (fun _ t => va_P (dC, dI) vwCl [(aT, .inr (2, [.ref aK, .ref aG, .ref aE, .ref aW, .int o.2.1, .int ts])), (aK, .inl (cK, 1024, .inl o.2.2.1)), (aG, .inl (cG, 1024, .inl o.2.2.2.1)), (aE, .inl (cE, 1024, .inl o.2.2.2.2.1)), (aW, .inl (cW, 1024, .inr (.inl o.2.2.2.2.2))), (aL, .inr (1, [.ref aB, .int ln])), (aB, .inl (cB, 1024, .inl lb))] t.heap ∧ va_K (dC, dI) vwCl [(cK, .byte), (cG, .int), (cE, .int), (cW, .long), (cB, .byte)] t ∧ va_D (va_A [(aT, .inr (2, [.ref aK, .ref aG, .ref aE, .ref aW, .int tn, .int ts])), (aK, .inl (cK, 1024, .inl tk)), (aG, .inl (cG, 1024, .inl tb)), (aE, .inl (cE, 1024, .inl te)), (aW, .inl (cW, 1024, .inr (.inl tw))), (aL, .inr (1, [.ref aB, .int ln])), (aB, .inl (cB, 1024, .inl lb))] sz) [(aT, .inr (2, [.ref aK, .ref aG, .ref aE, .ref aW, .int o.2.1, .int ts])), (aK, .inl (cK, 1024, .inl o.2.2.1)), (aG, .inl (cG, 1024, .inl o.2.2.2.1)), (aE, .inl (cE, 1024, .inl o.2.2.2.2.1)), (aW, .inl (cW, 1024, .inr (.inl o.2.2.2.2.2))), (aL, .inr (1, [.ref aB, .int ln])), (aB, .inl (cB, 1024, .inl lb))]) (va_A [(aT, .inr (2, [.ref aK, .ref aG, .ref aE, .ref aW, .int tn, .int ts])), (aK, .inl (cK, 1024, .inl tk)), (aG, .inl (cG, 1024, .inl tb)), (aE, .inl (cE, 1024, .inl te)), (aW, .inl (cW, 1024, .inr (.inl tw))), (aL, .inr (1, [.ref aB, .int ln])), (aB, .inl (cB, 1024, .inl lb))] sz)) 0 0 (va_A [(aT, .inr (2, [.ref aK, .ref aG, .ref aE, .ref aW, .int tn, .int ts])), (aK, .inl (cK, 1024, .inl tk)), (aG, .inl (cG, 1024, .inl tb)), (aE, .inl (cE, 1024, .inl te)), (aW, .inl (cW, 1024, .inr (.inl tw))), (aL, .inr (1, [.ref aB, .int ln])), (aB, .inl (cB, 1024, .inl lb))] sz) := by
  refine Met.ofW (cc := b_T_cutName) (maxL := 4) (ret := (some .int)) (by decide) rfl ?_
  intro p e s m args below meth c s₁ B hml hv
  obtain ⟨rfl, hsz, hP, hK, hD0, hN⟩ := hv
  have hx := B.exec
  have hb := B.bytes
  have hr := B.returns
  have hts : ∀ w ∈ WB, w.before _ s = true := fun w h => atoms_spec (ws := w_T_cutName) B.pre w (List.mem_cons_of_mem _ h)
  have hown : s.vm.findClass R_T = some m.cls := findClass_of_methodNamed B.named
  have hlocks := B.notSynchronized
  subst hsz
  have hD := hD0.self (sz := s.heap.size)
  generalize hAe : va_A [(aT, .inr (2, [.ref aK, .ref aG, .ref aE, .ref aW, .int tn, .int ts])), (aK, .inl (cK, 1024, .inl tk)), (aG, .inl (cG, 1024, .inl tb)), (aE, .inl (cE, 1024, .inl te)), (aW, .inl (cW, 1024, .inr (.inl tw))), (aL, .inr (1, [.ref aB, .int ln])), (aB, .inl (cB, 1024, .inl lb))] s.heap.size = A at hD ⊢
  have hA : ∀ q : Nat, s.heap.size ≤ q → A q := fun q h => by rw [← hAe]; exact Or.inr h
  have hS : va_S A s.heap s.heap [] := va_S.rf
  have hP : va_P (dC, dI) vwCl [(aT, .inr (2, [.ref aK, .ref aG, .ref aE, .ref aW, .int tn, .int ts])), (aK, .inl (cK, 1024, .inl tk)), (aG, .inl (cG, 1024, .inl tb)), (aE, .inl (cE, 1024, .inl te)), (aW, .inl (cW, 1024, .inr (.inl tw))), (aL, .inr (1, [.ref aB, .int ln])), (aB, .inl (cB, 1024, .inl lb))] s.heap := hP
  have hl := lv_entry [.ref aT, .ref aL, .int p1] (n := 4) (Nat.le_of_ble_eq_true rfl)
  rw [lg_entry_eq]
  generalize (lg_sl [.ref aT, .ref aL, .int p1] ++ List.replicate (4 - (lg_sl [.ref aT, .ref aL, .int p1]).length) Slot.unset).toArray = ls at hl ⊢
  have hl : lv_has ls 4 [(0, .ref aT), (1, .ref aL), (2, .int p1)] := hl
  rw [f_T_cutName] at hf
  refine lv_aload_n hx hb d_T_cutName_0 rfl (lv_at hl 1 rfl) ?_
  refine lv_iload_n hx hb d_T_cutName_1 rfl (lv_at hl 2 rfl) ?_
  obtain ⟨o_1, hM_1, hf⟩ := bd_some hf
  refine cr_i (va_runS (As := [.ref aL, .int p1]) (rest := []) ⟨hx, hb, hml, hown, hts⟩ (c_S_endOfName l dC dI aL aB cB s.heap.size ln lb p1 o_1 hM_1) (va_cwS 2 hts (gwS wb_46 wb_48 wb_10 wb_47) rfl rfl rfl (by decide +kernel) ⟨Nat.le_of_ble_eq_true rfl, Nat.le_of_ble_eq_true rfl⟩) (pr_S (hP.sub [5, 6] rfl) (hD.sub [5, 6] (by decide) rfl) hK hN [4] rfl) rfl rfl hl.1 rfl (lv_room (Nat.le_of_ble_eq_true rfl)) d_T_cutName_2 ⟨Nat.zero_le _, Nat.zero_le _⟩) hP hD hS hA (in_of [5, 6] rfl) (fun r_1 H locs hw hP hS => ?_)
  subst r_1
  refine lv_istore_n (lv' := [(3, .int o_1), (0, .ref aT), (1, .ref aL), (2, .int p1)]) hx hb d_T_cutName_5 rfl hl (by decide) rfl (fun ls hl => ?_)
  refine lv_iload_n hx hb d_T_cutName_6 rfl (lv_at hl 0 rfl) ?_
  refine lv_iload_n hx hb d_T_cutName_7 rfl (lv_at hl 3 rfl) ?_
  refine lv_isub hx hb d_T_cutName_8 ?_
  refine lv_bipush (v := (63 : Int32)) hx hb d_T_cutName_9 (by decide) ?_
  refine lv_icmp_le (tgt := 18) hx hb d_T_cutName_11 (by decide) (fun c_2 => ?_) (fun c_2 => ?_)
  · rw [if_pos c_2] at hf
    refine lv_aload_n hx hb d_T_cutName_18 rfl (lv_at hl 1 rfl) ?_
    refine lv_iconst (v := (1 : Int32)) hx hb d_T_cutName_19 (by decide) ?_
    refine lv_iload_n hx hb d_T_cutName_20 rfl (lv_at hl 3 rfl) ?_
    refine lv_iload_n hx hb d_T_cutName_21 rfl (lv_at hl 0 rfl) ?_
    refine lv_lconst (v := (0 : Int64)) hx hb d_T_cutName_22 (by decide) ?_
    obtain ⟨o_3, hM_3, hf⟩ := bd_some hf
    refine cl_i (wr := [(aL, .inr (1, [.ref aB, .int ln])), (aB, .inl (cB, 1024, .inl lb))]) (va_runV (As := [.int (1 : Int32), .int p1, .int o_1, .long (0 : Int64)]) (rest := []) ⟨hx, hb, hml, hown, hts⟩ (c_T_keep l dC dI aT aK aG aE aW cK cG cE cW H.size tn ts tk tb te tw (1 : Int32) p1 o_1 (0 : Int64) o_3 hM_3) (cwV 4 hts (gwV wb_49 wb_51 wb_52 wb_32 wb_50) rfl rfl rfl (by decide +kernel) ⟨Nat.le_of_ble_eq_true rfl, Nat.le_of_ble_eq_true rfl⟩) (pr_V (hP.sub [0, 1, 2, 3, 4] rfl) (hD.sub [0, 1, 2, 3, 4] (by decide) rfl) hK hN [0, 1, 2, 3] rfl (ci := 2) rfl rfl rfl) rfl rfl hl.1 rfl (lv_room (Nat.le_of_ble_eq_true rfl)) d_T_cutName_23 ⟨Nat.zero_le _, Nat.zero_le _⟩) hP hD hS hA [0, 1, 2, 3, 4] [5, 6] rfl rfl (by decide) (by decide) (fun r_3 H locs hw hP hD hS => ?_)
    subst r_3
    have hP : va_P (dC, dI) vwCl [(aL, .inr (1, [.ref aB, .int ln])), (aB, .inl (cB, 1024, .inl lb)), (aT, .inr (2, [.ref aK, .ref aG, .ref aE, .ref aW, .int o_3.2.1, .int ts])), (aK, .inl (cK, 1024, .inl o_3.2.2.1)), (aG, .inl (cG, 1024, .inl o_3.2.2.2.1)), (aE, .inl (cE, 1024, .inl o_3.2.2.2.2.1)), (aW, .inl (cW, 1024, .inr (.inl o_3.2.2.2.2.2)))] H := hP
    have hD : va_D A [(aL, .inr (1, [.ref aB, .int ln])), (aB, .inl (cB, 1024, .inl lb)), (aT, .inr (2, [.ref aK, .ref aG, .ref aE, .ref aW, .int o_3.2.1, .int ts])), (aK, .inl (cK, 1024, .inl o_3.2.2.1)), (aG, .inl (cG, 1024, .inl o_3.2.2.2.1)), (aE, .inl (cE, 1024, .inl o_3.2.2.2.2.1)), (aW, .inl (cW, 1024, .inr (.inl o_3.2.2.2.2.2)))] := hD
    have ho := Option.some.inj hf
    subst o
    have hP9 := hP.sub (ws' := [(aT, .inr (2, [.ref aK, .ref aG, .ref aE, .ref aW, .int o_3.2.1, .int ts])), (aK, .inl (cK, 1024, .inl o_3.2.2.1)), (aG, .inl (cG, 1024, .inl o_3.2.2.2.1)), (aE, .inl (cE, 1024, .inl o_3.2.2.2.2.1)), (aW, .inl (cW, 1024, .inr (.inl o_3.2.2.2.2.2))), (aL, .inr (1, [.ref aB, .int ln])), (aB, .inl (cB, 1024, .inl lb))]) [2, 3, 4, 5, 6, 0, 1] rfl
    have hD9 := hD.sub (ws' := [(aT, .inr (2, [.ref aK, .ref aG, .ref aE, .ref aW, .int o_3.2.1, .int ts])), (aK, .inl (cK, 1024, .inl o_3.2.2.1)), (aG, .inl (cG, 1024, .inl o_3.2.2.2.1)), (aE, .inl (cE, 1024, .inl o_3.2.2.2.2.1)), (aW, .inl (cW, 1024, .inr (.inl o_3.2.2.2.2.2))), (aL, .inr (1, [.ref aB, .int ln])), (aB, .inl (cB, 1024, .inl lb))]) [2, 3, 4, 5, 6, 0, 1] (by decide) rfl
    exact W.iret (v := o_3.1) hx hb hr (fun t ht hW => ⟨⟨o_3.1, (), rfl, rfl, by rw [ht]; exact hP9, va_K.moved hW.alike hK, hD9⟩, hS.F ht⟩) hS.2.2 d_T_cutName_26
  · rw [if_neg c_2] at hf
    refine lv_iconst (v := (-1 : Int32)) hx hb d_T_cutName_14 (by decide) ?_
    refine lv_goto (tgt := 26) hx hb d_T_cutName_15 (by decide) ?_
    have ho := Option.some.inj hf
    subst o
    have hP9 := hP.sub (ws' := [(aT, .inr (2, [.ref aK, .ref aG, .ref aE, .ref aW, .int tn, .int ts])), (aK, .inl (cK, 1024, .inl tk)), (aG, .inl (cG, 1024, .inl tb)), (aE, .inl (cE, 1024, .inl te)), (aW, .inl (cW, 1024, .inr (.inl tw))), (aL, .inr (1, [.ref aB, .int ln])), (aB, .inl (cB, 1024, .inl lb))]) [0, 1, 2, 3, 4, 5, 6] rfl
    have hD9 := hD.sub (ws' := [(aT, .inr (2, [.ref aK, .ref aG, .ref aE, .ref aW, .int tn, .int ts])), (aK, .inl (cK, 1024, .inl tk)), (aG, .inl (cG, 1024, .inl tb)), (aE, .inl (cE, 1024, .inl te)), (aW, .inl (cW, 1024, .inr (.inl tw))), (aL, .inr (1, [.ref aB, .int ln])), (aB, .inl (cB, 1024, .inl lb))]) [0, 1, 2, 3, 4, 5, 6] (by decide) rfl
    exact W.iret (v := (-1 : Int32)) hx hb hr (fun t ht hW => ⟨⟨(-1 : Int32), (), rfl, rfl, by rw [ht]; exact hP9, va_K.moved hW.alike hK, hD9⟩, hS.F ht⟩) hS.2.2 d_T_cutName_26

def f_T_cutNumber_l44 : Nat → Int32 → (Nat → Int32) → (Nat → Int32) → (Nat → Int32) → (Nat → Int64) → Int32 → (Nat → Int32) → Int32 → Int32 → Int32 → Int64 → Int32 → Option (Int32 × Int32 × (Nat → Int32) × (Nat → Int32) × (Nat → Int32) × (Nat → Int64))
  | 0, _, _, _, _, _, _, _, _, _, _, _, _ => none
  | n + 1, tn, tk, tb, te, tw, ln, lb, x2, x3, x5, x6, x8 => if x5 ≤ x8 then (f_T_keep tn tk tb te tw (2 : Int32) x2 x5 x6).bind (fun o_6 => some (o_6.1, o_6.2.1, o_6.2.2.1, o_6.2.2.2.1, o_6.2.2.2.2.1, o_6.2.2.2.2.2)) else (f_L_at ln lb x8).bind (fun o_7 => (f_S_digit o_7 x3).bind (fun o_8 => if o_8 = (-1 : Int32) then some ((-1 : Int32), tn, tk, tb, te, tw) else (f_S_hasRoom x6 x3 o_8).bind (fun o_10 => if o_10 = (0 : Int32) then some ((-1 : Int32), tn, tk, tb, te, tw) else f_T_cutNumber_l44 n tn tk tb te tw ln lb x2 x3 x5 ((x6 * x3.toInt64) + o_8.toInt64) (x8 + (1 : Int32)))))
def f_T_cutNumber (tn : Int32) (tk : Nat → Int32) (tb : Nat → Int32) (te : Nat → Int32) (tw : Nat → Int64) (ln : Int32) (lb : Nat → Int32) (p1 : Int32) : Option (Int32 × Int32 × (Nat → Int32) × (Nat → Int32) × (Nat → Int32) × (Nat → Int64)) := (f_S_baseOfNumber ln lb p1).bind (fun o_1 => if o_1 = (10 : Int32) then (f_S_endOfName ln lb p1).bind (fun o_12 => if p1 < o_12 then f_T_cutNumber_l44 FU tn tk tb te tw ln lb p1 o_1 o_12 (0 : Int64) p1 else some ((-1 : Int32), tn, tk, tb, te, tw)) else (f_S_endOfName ln lb p1).bind (fun o_3 => if (p1 + (2 : Int32)) < o_3 then f_T_cutNumber_l44 FU tn tk tb te tw ln lb p1 o_1 o_3 (0 : Int64) (p1 + (2 : Int32)) else some ((-1 : Int32), tn, tk, tb, te, tw)))
set_option maxHeartbeats 4000000 in
set_option maxRecDepth 100000 in
theorem c_T_cutNumber (l : Launch) (dC : Nat → ClassId) (dI : Nat → Nat → Nat) (aT aK aG aE aW aL aB : Nat) (cK cG cE cW cB : ClassId) (sz : Nat) (tn : Int32) (ts : Int32) (tk : Nat → Int32) (tb : Nat → Int32) (te : Nat → Int32) (tw : Nat → Int64) (ln : Int32) (lb : Nat → Int32) (p1 : Int32) (o : Int32 × Int32 × (Nat → Int32) × (Nat → Int32) × (Nat → Int32) × (Nat → Int64)) (hf : f_T_cutNumber tn tk tb te tw ln lb p1 = some o) : Met l y_T_cutNumber (w_T_cutNumber) ({ frames := 3, cells := 0, slots := 0, locals := 62 }) (va_Pc [.ref aT, .ref aL, .int p1] (fun U => U.heap.size = sz ∧ va_P (dC, dI) vwCl [(aT, .inr (2, [.ref aK, .ref aG, .ref aE, .ref aW, .int tn, .int ts])), (aK, .inl (cK, 1024, .inl tk)), (aG, .inl (cG, 1024, .inl tb)), (aE, .inl (cE, 1024, .inl te)), (aW, .inl (cW, 1024, .inr (.inl tw))), (aL, .inr (1, [.ref aB, .int ln])), (aB, .inl (cB, 1024, .inl lb))] U.heap ∧ va_K (dC, dI) vwCl [(cK, .byte), (cG, .int), (cE, .int), (cW, .long), (cB, .byte)] U ∧ va_D (fun _ => True) [(aT, .inr (2, [.ref aK, .ref aG, .ref aE, .ref aW, .int tn, .int ts])), (aK, .inl (cK, 1024, .inl tk)), (aG, .inl (cG, 1024, .inl tb)), (aE, .inl (cE, 1024, .inl te)), (aW, .inl (cW, 1024, .inr (.inl tw))), (aL, .inr (1, [.ref aB, .int ln])), (aB, .inl (cB, 1024, .inl lb))] ∧ NW U)) (va_Qi (fun (r : Int32) (_ : Unit) => r = o.1) (fun _ t => va_P (dC, dI) vwCl [(aT, .inr (2, [.ref aK, .ref aG, .ref aE, .ref aW, .int o.2.1, .int ts])), (aK, .inl (cK, 1024, .inl o.2.2.1)), (aG, .inl (cG, 1024, .inl o.2.2.2.1)), (aE, .inl (cE, 1024, .inl o.2.2.2.2.1)), (aW, .inl (cW, 1024, .inr (.inl o.2.2.2.2.2))), (aL, .inr (1, [.ref aB, .int ln])), (aB, .inl (cB, 1024, .inl lb))] t.heap ∧ va_K (dC, dI) vwCl [(cK, .byte), (cG, .int), (cE, .int), (cW, .long), (cB, .byte)] t ∧ va_D (va_A [(aT, .inr (2, [.ref aK, .ref aG, .ref aE, .ref aW, .int tn, .int ts])), (aK, .inl (cK, 1024, .inl tk)), (aG, .inl (cG, 1024, .inl tb)), (aE, .inl (cE, 1024, .inl te)), (aW, .inl (cW, 1024, .inr (.inl tw))), (aL, .inr (1, [.ref aB, .int ln])), (aB, .inl (cB, 1024, .inl lb))] sz) [(aT, .inr (2, [.ref aK, .ref aG, .ref aE, .ref aW, .int o.2.1, .int ts])), (aK, .inl (cK, 1024, .inl o.2.2.1)), (aG, .inl (cG, 1024, .inl o.2.2.2.1)), (aE, .inl (cE, 1024, .inl o.2.2.2.2.1)), (aW, .inl (cW, 1024, .inr (.inl o.2.2.2.2.2))), (aL, .inr (1, [.ref aB, .int ln])), (aB, .inl (cB, 1024, .inl lb))]) (va_A [(aT, .inr (2, [.ref aK, .ref aG, .ref aE, .ref aW, .int tn, .int ts])), (aK, .inl (cK, 1024, .inl tk)), (aG, .inl (cG, 1024, .inl tb)), (aE, .inl (cE, 1024, .inl te)), (aW, .inl (cW, 1024, .inr (.inl tw))), (aL, .inr (1, [.ref aB, .int ln])), (aB, .inl (cB, 1024, .inl lb))] sz)) 0 0 (va_A [(aT, .inr (2, [.ref aK, .ref aG, .ref aE, .ref aW, .int tn, .int ts])), (aK, .inl (cK, 1024, .inl tk)), (aG, .inl (cG, 1024, .inl tb)), (aE, .inl (cE, 1024, .inl te)), (aW, .inl (cW, 1024, .inr (.inl tw))), (aL, .inr (1, [.ref aB, .int ln])), (aB, .inl (cB, 1024, .inl lb))] sz) := by
  refine Met.ofW (cc := b_T_cutNumber) (maxL := 10) (ret := (some .int)) (by decide) rfl ?_
  intro p e s m args below meth c s₁ B hml hv
  obtain ⟨rfl, hsz, hP, hK, hD0, hN⟩ := hv
  have hx := B.exec
  have hb := B.bytes
  have hr := B.returns
  have hts : ∀ w ∈ WB, w.before _ s = true := fun w h => atoms_spec (ws := w_T_cutNumber) B.pre w (List.mem_cons_of_mem _ h)
  have hown : s.vm.findClass R_T = some m.cls := findClass_of_methodNamed B.named
  have hlocks := B.notSynchronized
  subst hsz
  have hD := hD0.self (sz := s.heap.size)
  generalize hAe : va_A [(aT, .inr (2, [.ref aK, .ref aG, .ref aE, .ref aW, .int tn, .int ts])), (aK, .inl (cK, 1024, .inl tk)), (aG, .inl (cG, 1024, .inl tb)), (aE, .inl (cE, 1024, .inl te)), (aW, .inl (cW, 1024, .inr (.inl tw))), (aL, .inr (1, [.ref aB, .int ln])), (aB, .inl (cB, 1024, .inl lb))] s.heap.size = A at hD ⊢
  have hA : ∀ q : Nat, s.heap.size ≤ q → A q := fun q h => by rw [← hAe]; exact Or.inr h
  have hS : va_S A s.heap s.heap [] := va_S.rf
  have hP : va_P (dC, dI) vwCl [(aT, .inr (2, [.ref aK, .ref aG, .ref aE, .ref aW, .int tn, .int ts])), (aK, .inl (cK, 1024, .inl tk)), (aG, .inl (cG, 1024, .inl tb)), (aE, .inl (cE, 1024, .inl te)), (aW, .inl (cW, 1024, .inr (.inl tw))), (aL, .inr (1, [.ref aB, .int ln])), (aB, .inl (cB, 1024, .inl lb))] s.heap := hP
  have hl := lv_entry [.ref aT, .ref aL, .int p1] (n := 10) (Nat.le_of_ble_eq_true rfl)
  rw [lg_entry_eq]
  generalize (lg_sl [.ref aT, .ref aL, .int p1] ++ List.replicate (10 - (lg_sl [.ref aT, .ref aL, .int p1]).length) Slot.unset).toArray = ls at hl ⊢
  have hl : lv_has ls 10 [(0, .ref aT), (1, .ref aL), (2, .int p1)] := hl
  have loop_44 : ∀ (n : Nat) (tn : Int32) (tk : Nat → Int32) (tb : Nat → Int32) (te : Nat → Int32) (tw : Nat → Int64) (ln : Int32) (lb : Nat → Int32) (x2 : Int32) (x3 : Int32) (x5 : Int32) (x6 : Int64) (x8 : Int32) (H : Heap) (locs : List Loc) (ls : Array Slot), f_T_cutNumber_l44 n tn tk tb te tw ln lb x2 x3 x5 x6 x8 = some o → va_P (dC, dI) vwCl [(aT, .inr (2, [.ref aK, .ref aG, .ref aE, .ref aW, .int tn, .int ts])), (aK, .inl (cK, 1024, .inl tk)), (aG, .inl (cG, 1024, .inl tb)), (aE, .inl (cE, 1024, .inl te)), (aW, .inl (cW, 1024, .inr (.inl tw))), (aL, .inr (1, [.ref aB, .int ln])), (aB, .inl (cB, 1024, .inl lb))] H → va_D A [(aT, .inr (2, [.ref aK, .ref aG, .ref aE, .ref aW, .int tn, .int ts])), (aK, .inl (cK, 1024, .inl tk)), (aG, .inl (cG, 1024, .inl tb)), (aE, .inl (cE, 1024, .inl te)), (aW, .inl (cW, 1024, .inr (.inl tw))), (aL, .inr (1, [.ref aB, .int ln])), (aB, .inl (cB, 1024, .inl lb))] → va_S A s.heap H locs → lv_has ls 10 [(0, .ref aT), (1, .ref aL), (2, .int x2), (3, .int x3), (5, .int x5), (6, .long x6), (8, .int x8)] → W p l e (headSpec (w_T_cutNumber) ({ frames := 3, cells := 0, slots := 0, locals := 62 })).room s m [.ref aT, .ref aL, .int p1].toArray below meth c H locs 0 0 (MQ below (va_Qi (fun (r : Int32) (_ : Unit) => r = o.1) (fun _ t => va_P (dC, dI) vwCl [(aT, .inr (2, [.ref aK, .ref aG, .ref aE, .ref aW, .int o.2.1, .int ts])), (aK, .inl (cK, 1024, .inl o.2.2.1)), (aG, .inl (cG, 1024, .inl o.2.2.2.1)), (aE, .inl (cE, 1024, .inl o.2.2.2.2.1)), (aW, .inl (cW, 1024, .inr (.inl o.2.2.2.2.2))), (aL, .inr (1, [.ref aB, .int ln])), (aB, .inl (cB, 1024, .inl lb))] t.heap ∧ va_K (dC, dI) vwCl [(cK, .byte), (cG, .int), (cE, .int), (cW, .long), (cB, .byte)] t ∧ va_D A [(aT, .inr (2, [.ref aK, .ref aG, .ref aE, .ref aW, .int o.2.1, .int ts])), (aK, .inl (cK, 1024, .inl o.2.2.1)), (aG, .inl (cG, 1024, .inl o.2.2.2.1)), (aE, .inl (cE, 1024, .inl o.2.2.2.2.1)), (aW, .inl (cW, 1024, .inr (.inl o.2.2.2.2.2))), (aL, .inr (1, [.ref aB, .int ln])), (aB, .inl (cB, 1024, .inl lb))]) A) [.ref aT, .ref aL, .int p1].toArray s 0 0 A) (F0 m 44 ls []) := by
    intro n
    induction n with
    | zero => intro tn tk tb te tw ln lb x2 x3 x5 x6 x8 H locs ls hf; exact absurd hf (by simp [f_T_cutNumber_l44])
    | succ n ih =>
      intro tn tk tb te tw ln lb x2 x3 x5 x6 x8 H locs ls hf hP hD hS hl
      rw [f_T_cutNumber_l44] at hf
      refine lv_iload hx hb d_T_cutNumber_44 (lv_at hl 6 rfl) ?_
      refine lv_iload hx hb d_T_cutNumber_46 (lv_at hl 4 rfl) ?_
      refine lv_icmp_ge (tgt := 99) hx hb d_T_cutNumber_48 (by decide) (fun c_5 => ?_) (fun c_5 => ?_)
      · rw [if_pos c_5] at hf
        refine lv_aload_n hx hb d_T_cutNumber_99 rfl (lv_at hl 0 rfl) ?_
        refine lv_iconst (v := (2 : Int32)) hx hb d_T_cutNumber_100 (by decide) ?_
        refine lv_iload_n hx hb d_T_cutNumber_101 rfl (lv_at hl 2 rfl) ?_
        refine lv_iload hx hb d_T_cutNumber_102 (lv_at hl 4 rfl) ?_
        refine lv_lload hx hb d_T_cutNumber_104 (lv_at hl 5 rfl) ?_
        obtain ⟨o_6, hM_6, hf⟩ := bd_some hf
        refine cl_i (wr := [(aL, .inr (1, [.ref aB, .int ln])), (aB, .inl (cB, 1024, .inl lb))]) (va_runV (As := [.int (2 : Int32), .int x2, .int x5, .long x6]) (rest := []) ⟨hx, hb, hml, hown, hts⟩ (c_T_keep l dC dI aT aK aG aE aW cK cG cE cW H.size tn ts tk tb te tw (2 : Int32) x2 x5 x6 o_6 hM_6) (cwV 4 hts (gwV wb_49 wb_51 wb_52 wb_32 wb_50) rfl rfl rfl (by decide +kernel) ⟨Nat.le_of_ble_eq_true rfl, Nat.le_of_ble_eq_true rfl⟩) (pr_V (hP.sub [0, 1, 2, 3, 4] rfl) (hD.sub [0, 1, 2, 3, 4] (by decide) rfl) hK hN [0, 1, 2, 3] rfl (ci := 2) rfl rfl rfl) rfl rfl hl.1 rfl (lv_room (Nat.le_of_ble_eq_true rfl)) d_T_cutNumber_106 ⟨Nat.zero_le _, Nat.zero_le _⟩) hP hD hS hA [0, 1, 2, 3, 4] [5, 6] rfl rfl (by decide) (by decide) (fun r_6 H locs hw hP hD hS => ?_)
        subst r_6
        have hP : va_P (dC, dI) vwCl [(aL, .inr (1, [.ref aB, .int ln])), (aB, .inl (cB, 1024, .inl lb)), (aT, .inr (2, [.ref aK, .ref aG, .ref aE, .ref aW, .int o_6.2.1, .int ts])), (aK, .inl (cK, 1024, .inl o_6.2.2.1)), (aG, .inl (cG, 1024, .inl o_6.2.2.2.1)), (aE, .inl (cE, 1024, .inl o_6.2.2.2.2.1)), (aW, .inl (cW, 1024, .inr (.inl o_6.2.2.2.2.2)))] H := hP
        have hD : va_D A [(aL, .inr (1, [.ref aB, .int ln])), (aB, .inl (cB, 1024, .inl lb)), (aT, .inr (2, [.ref aK, .ref aG, .ref aE, .ref aW, .int o_6.2.1, .int ts])), (aK, .inl (cK, 1024, .inl o_6.2.2.1)), (aG, .inl (cG, 1024, .inl o_6.2.2.2.1)), (aE, .inl (cE, 1024, .inl o_6.2.2.2.2.1)), (aW, .inl (cW, 1024, .inr (.inl o_6.2.2.2.2.2)))] := hD
        have ho := Option.some.inj hf
        subst o
        have hP9 := hP.sub (ws' := [(aT, .inr (2, [.ref aK, .ref aG, .ref aE, .ref aW, .int o_6.2.1, .int ts])), (aK, .inl (cK, 1024, .inl o_6.2.2.1)), (aG, .inl (cG, 1024, .inl o_6.2.2.2.1)), (aE, .inl (cE, 1024, .inl o_6.2.2.2.2.1)), (aW, .inl (cW, 1024, .inr (.inl o_6.2.2.2.2.2))), (aL, .inr (1, [.ref aB, .int ln])), (aB, .inl (cB, 1024, .inl lb))]) [2, 3, 4, 5, 6, 0, 1] rfl
        have hD9 := hD.sub (ws' := [(aT, .inr (2, [.ref aK, .ref aG, .ref aE, .ref aW, .int o_6.2.1, .int ts])), (aK, .inl (cK, 1024, .inl o_6.2.2.1)), (aG, .inl (cG, 1024, .inl o_6.2.2.2.1)), (aE, .inl (cE, 1024, .inl o_6.2.2.2.2.1)), (aW, .inl (cW, 1024, .inr (.inl o_6.2.2.2.2.2))), (aL, .inr (1, [.ref aB, .int ln])), (aB, .inl (cB, 1024, .inl lb))]) [2, 3, 4, 5, 6, 0, 1] (by decide) rfl
        exact W.iret (v := o_6.1) hx hb hr (fun t ht hW => ⟨⟨o_6.1, (), rfl, rfl, by rw [ht]; exact hP9, va_K.moved hW.alike hK, hD9⟩, hS.F ht⟩) hS.2.2 d_T_cutNumber_109
      · rw [if_neg c_5] at hf
        refine lv_aload_n hx hb d_T_cutNumber_51 rfl (lv_at hl 1 rfl) ?_
        refine lv_iload hx hb d_T_cutNumber_52 (lv_at hl 6 rfl) ?_
        obtain ⟨o_7, hM_7, hf⟩ := bd_some hf
        refine cr_i (va_runV (As := [.int x8]) (rest := []) ⟨hx, hb, hml, hown, hts⟩ (c_L_at l dC dI aL aB cB H.size ln lb x8 o_7 hM_7) (cwV 1 hts (gwV wb_56 wb_4 wb_5 wb_6 wb_3) rfl rfl rfl (by decide +kernel) ⟨Nat.le_of_ble_eq_true rfl, Nat.le_of_ble_eq_true rfl⟩) (pr_V (hP.sub [5, 6] rfl) (hD.sub [5, 6] (by decide) rfl) hK hN [4] rfl (ci := 1) rfl rfl rfl) rfl rfl hl.1 rfl (lv_room (Nat.le_of_ble_eq_true rfl)) d_T_cutNumber_54 ⟨Nat.zero_le _, Nat.zero_le _⟩) hP hD hS hA (in_of [5, 6] rfl) (fun r_7 H locs hw hP hS => ?_)
        subst r_7
        refine lv_iload_n hx hb d_T_cutNumber_57 rfl (lv_at hl 3 rfl) ?_
        obtain ⟨o_8, hM_8, hf⟩ := bd_some hf
        refine cr_i (va_runS (As := [.int o_7, .int x3]) (rest := []) ⟨hx, hb, hml, hown, hts⟩ (c_S_digit l dC dI   H.size  o_7 x3 o_8 hM_8) (va_cwS 2 hts (gwS wb_57 wb_59 wb_10 wb_58) rfl rfl rfl (by decide +kernel) ⟨Nat.le_of_ble_eq_true rfl, Nat.le_of_ble_eq_true rfl⟩) (pr_S (hP.sub [] rfl) (hD.sub [] (by decide) rfl) hK hN [] rfl) rfl rfl hl.1 rfl (lv_room (Nat.le_of_ble_eq_true rfl)) d_T_cutNumber_58 ⟨Nat.zero_le _, Nat.zero_le _⟩) hP hD hS hA (in_of [] rfl) (fun r_8 H locs hw hP hS => ?_)
        subst r_8
        refine lv_istore (lv' := [(9, .int o_8), (0, .ref aT), (1, .ref aL), (2, .int x2), (3, .int x3), (5, .int x5), (6, .long x6), (8, .int x8)]) hx hb d_T_cutNumber_61 hl (by decide) rfl (fun ls hl => ?_)
        refine lv_iload hx hb d_T_cutNumber_63 (lv_at hl 0 rfl) ?_
        refine lv_iconst (v := (-1 : Int32)) hx hb d_T_cutNumber_65 (by decide) ?_
        refine lv_icmp_eq (tgt := 80) hx hb d_T_cutNumber_66 (by decide) (fun c_9 => ?_) (fun c_9 => ?_)
        · rw [if_pos c_9] at hf
          refine lv_iconst (v := (-1 : Int32)) hx hb d_T_cutNumber_80 (by decide) ?_
          have ho := Option.some.inj hf
          subst o
          have hP9 := hP.sub (ws' := [(aT, .inr (2, [.ref aK, .ref aG, .ref aE, .ref aW, .int tn, .int ts])), (aK, .inl (cK, 1024, .inl tk)), (aG, .inl (cG, 1024, .inl tb)), (aE, .inl (cE, 1024, .inl te)), (aW, .inl (cW, 1024, .inr (.inl tw))), (aL, .inr (1, [.ref aB, .int ln])), (aB, .inl (cB, 1024, .inl lb))]) [0, 1, 2, 3, 4, 5, 6] rfl
          have hD9 := hD.sub (ws' := [(aT, .inr (2, [.ref aK, .ref aG, .ref aE, .ref aW, .int tn, .int ts])), (aK, .inl (cK, 1024, .inl tk)), (aG, .inl (cG, 1024, .inl tb)), (aE, .inl (cE, 1024, .inl te)), (aW, .inl (cW, 1024, .inr (.inl tw))), (aL, .inr (1, [.ref aB, .int ln])), (aB, .inl (cB, 1024, .inl lb))]) [0, 1, 2, 3, 4, 5, 6] (by decide) rfl
          exact W.iret (v := (-1 : Int32)) hx hb hr (fun t ht hW => ⟨⟨(-1 : Int32), (), rfl, rfl, by rw [ht]; exact hP9, va_K.moved hW.alike hK, hD9⟩, hS.F ht⟩) hS.2.2 d_T_cutNumber_81
        · rw [if_neg c_9] at hf
          refine lv_lload hx hb d_T_cutNumber_69 (lv_at hl 6 rfl) ?_
          refine lv_iload_n hx hb d_T_cutNumber_71 rfl (lv_at hl 4 rfl) ?_
          refine lv_iload hx hb d_T_cutNumber_72 (lv_at hl 0 rfl) ?_
          obtain ⟨o_10, hM_10, hf⟩ := bd_some hf
          refine cr_i (va_runS (As := [.long x6, .int x3, .int o_8]) (rest := []) ⟨hx, hb, hml, hown, hts⟩ (c_S_hasRoom l dC dI   H.size  x6 x3 o_8 o_10 hM_10) (va_cwS 3 hts (gwS wb_60 wb_62 wb_10 wb_61) rfl rfl rfl (by decide +kernel) ⟨Nat.le_of_ble_eq_true rfl, Nat.le_of_ble_eq_true rfl⟩) (pr_S (hP.sub [] rfl) (hD.sub [] (by decide) rfl) hK hN [] rfl) rfl rfl hl.1 rfl (lv_room (Nat.le_of_ble_eq_true rfl)) d_T_cutNumber_74 ⟨Nat.zero_le _, Nat.zero_le _⟩) hP hD hS hA (in_of [] rfl) (fun r_10 H locs hw hP hS => ?_)
          obtain ⟨hw, hz_10⟩ := hw
          subst r_10
          refine lv_if_ne (tgt := 82) hx hb d_T_cutNumber_77 (by decide) (fun c_11 => ?_) (fun c_11 => ?_)
          · rw [if_neg c_11] at hf
            refine lv_lload hx hb d_T_cutNumber_82 (lv_at hl 6 rfl) ?_
            refine lv_iload_n hx hb d_T_cutNumber_84 rfl (lv_at hl 4 rfl) ?_
            refine lv_i2l (v := x3.toInt64) hx hb d_T_cutNumber_85 rfl ?_
            refine lv_lmul hx hb d_T_cutNumber_86 ?_
            refine lv_iload hx hb d_T_cutNumber_87 (lv_at hl 0 rfl) ?_
            refine lv_i2l (v := o_8.toInt64) hx hb d_T_cutNumber_89 rfl ?_
            refine lv_ladd hx hb d_T_cutNumber_90 ?_
            refine lv_lstore (lv' := [(6, .long ((x6 * x3.toInt64) + o_8.toInt64)), (9, .int o_8), (0, .ref aT), (1, .ref aL), (2, .int x2), (3, .int x3), (5, .int x5), (8, .int x8)]) hx hb d_T_cutNumber_91 hl (by decide) rfl (fun ls hl => ?_)
            refine lv_iinc (v := x8 + (1 : Int32)) (lv' := [(8, .int (x8 + (1 : Int32))), (6, .long ((x6 * x3.toInt64) + o_8.toInt64)), (9, .int o_8), (0, .ref aT), (1, .ref aL), (2, .int x2), (3, .int x3), (5, .int x5)]) hx hb d_T_cutNumber_93 hl (k := 7) rfl rfl (by decide) rfl (fun ls hl => ?_)
            refine lv_goto (tgt := 44) hx hb d_T_cutNumber_96 (by decide) ?_
            exact ih tn tk tb te tw ln lb x2 x3 x5 ((x6 * x3.toInt64) + o_8.toInt64) (x8 + (1 : Int32)) H locs ls hf (hP.sub (ws' := [(aT, .inr (2, [.ref aK, .ref aG, .ref aE, .ref aW, .int tn, .int ts])), (aK, .inl (cK, 1024, .inl tk)), (aG, .inl (cG, 1024, .inl tb)), (aE, .inl (cE, 1024, .inl te)), (aW, .inl (cW, 1024, .inr (.inl tw))), (aL, .inr (1, [.ref aB, .int ln])), (aB, .inl (cB, 1024, .inl lb))]) [0, 1, 2, 3, 4, 5, 6] rfl) (hD.sub (ws' := [(aT, .inr (2, [.ref aK, .ref aG, .ref aE, .ref aW, .int tn, .int ts])), (aK, .inl (cK, 1024, .inl tk)), (aG, .inl (cG, 1024, .inl tb)), (aE, .inl (cE, 1024, .inl te)), (aW, .inl (cW, 1024, .inr (.inl tw))), (aL, .inr (1, [.ref aB, .int ln])), (aB, .inl (cB, 1024, .inl lb))]) [0, 1, 2, 3, 4, 5, 6] (by decide) rfl) hS (lv_sub hl [3, 4, 5, 6, 7, 1, 0] rfl)
          · rw [if_pos c_11] at hf
            refine lv_iconst (v := (-1 : Int32)) hx hb d_T_cutNumber_80 (by decide) ?_
            have ho := Option.some.inj hf
            subst o
            have hP9 := hP.sub (ws' := [(aT, .inr (2, [.ref aK, .ref aG, .ref aE, .ref aW, .int tn, .int ts])), (aK, .inl (cK, 1024, .inl tk)), (aG, .inl (cG, 1024, .inl tb)), (aE, .inl (cE, 1024, .inl te)), (aW, .inl (cW, 1024, .inr (.inl tw))), (aL, .inr (1, [.ref aB, .int ln])), (aB, .inl (cB, 1024, .inl lb))]) [0, 1, 2, 3, 4, 5, 6] rfl
            have hD9 := hD.sub (ws' := [(aT, .inr (2, [.ref aK, .ref aG, .ref aE, .ref aW, .int tn, .int ts])), (aK, .inl (cK, 1024, .inl tk)), (aG, .inl (cG, 1024, .inl tb)), (aE, .inl (cE, 1024, .inl te)), (aW, .inl (cW, 1024, .inr (.inl tw))), (aL, .inr (1, [.ref aB, .int ln])), (aB, .inl (cB, 1024, .inl lb))]) [0, 1, 2, 3, 4, 5, 6] (by decide) rfl
            exact W.iret (v := (-1 : Int32)) hx hb hr (fun t ht hW => ⟨⟨(-1 : Int32), (), rfl, rfl, by rw [ht]; exact hP9, va_K.moved hW.alike hK, hD9⟩, hS.F ht⟩) hS.2.2 d_T_cutNumber_81
  rw [f_T_cutNumber] at hf
  refine lv_aload_n hx hb d_T_cutNumber_0 rfl (lv_at hl 1 rfl) ?_
  refine lv_iload_n hx hb d_T_cutNumber_1 rfl (lv_at hl 2 rfl) ?_
  obtain ⟨o_1, hM_1, hf⟩ := bd_some hf
  refine cr_i (va_runS (As := [.ref aL, .int p1]) (rest := []) ⟨hx, hb, hml, hown, hts⟩ (c_S_baseOfNumber l dC dI aL aB cB s.heap.size ln lb p1 o_1 hM_1) (va_cwS 2 hts (gwS wb_53 wb_55 wb_10 wb_54) rfl rfl rfl (by decide +kernel) ⟨Nat.le_of_ble_eq_true rfl, Nat.le_of_ble_eq_true rfl⟩) (pr_S (hP.sub [5, 6] rfl) (hD.sub [5, 6] (by decide) rfl) hK hN [4] rfl) rfl rfl hl.1 rfl (lv_room (Nat.le_of_ble_eq_true rfl)) d_T_cutNumber_2 ⟨Nat.zero_le _, Nat.zero_le _⟩) hP hD hS hA (in_of [5, 6] rfl) (fun r_1 H locs hw hP hS => ?_)
  subst r_1
  refine lv_istore_n (lv' := [(3, .int o_1), (0, .ref aT), (1, .ref aL), (2, .int p1)]) hx hb d_T_cutNumber_5 rfl hl (by decide) rfl (fun ls hl => ?_)
  refine lv_iload_n hx hb d_T_cutNumber_6 rfl (lv_at hl 0 rfl) ?_
  refine lv_bipush (v := (10 : Int32)) hx hb d_T_cutNumber_7 (by decide) ?_
  refine lv_icmp_ne (tgt := 16) hx hb d_T_cutNumber_9 (by decide) (fun c_2 => ?_) (fun c_2 => ?_)
  · rw [if_neg c_2] at hf
    refine lv_iload_n hx hb d_T_cutNumber_16 rfl (lv_at hl 3 rfl) ?_
    refine lv_iconst (v := (2 : Int32)) hx hb d_T_cutNumber_17 (by decide) ?_
    refine lv_iadd hx hb d_T_cutNumber_18 ?_
    refine lv_istore (lv' := [(4, .int (p1 + (2 : Int32))), (3, .int o_1), (0, .ref aT), (1, .ref aL), (2, .int p1)]) hx hb d_T_cutNumber_19 hl (by decide) rfl (fun ls hl => ?_)
    refine lv_aload_n hx hb d_T_cutNumber_21 rfl (lv_at hl 3 rfl) ?_
    refine lv_iload_n hx hb d_T_cutNumber_22 rfl (lv_at hl 4 rfl) ?_
    obtain ⟨o_3, hM_3, hf⟩ := bd_some hf
    refine cr_i (va_runS (As := [.ref aL, .int p1]) (rest := []) ⟨hx, hb, hml, hown, hts⟩ (c_S_endOfName l dC dI aL aB cB H.size ln lb p1 o_3 hM_3) (va_cwS 2 hts (gwS wb_46 wb_48 wb_10 wb_47) rfl rfl rfl (by decide +kernel) ⟨Nat.le_of_ble_eq_true rfl, Nat.le_of_ble_eq_true rfl⟩) (pr_S (hP.sub [5, 6] rfl) (hD.sub [5, 6] (by decide) rfl) hK hN [4] rfl) rfl rfl hl.1 rfl (lv_room (Nat.le_of_ble_eq_true rfl)) d_T_cutNumber_23 ⟨Nat.zero_le _, Nat.zero_le _⟩) hP hD hS hA (in_of [5, 6] rfl) (fun r_3 H locs hw hP hS => ?_)
    subst r_3
    refine lv_istore (lv' := [(5, .int o_3), (4, .int (p1 + (2 : Int32))), (3, .int o_1), (0, .ref aT), (1, .ref aL), (2, .int p1)]) hx hb d_T_cutNumber_26 hl (by decide) rfl (fun ls hl => ?_)
    refine lv_iload hx hb d_T_cutNumber_28 (lv_at hl 1 rfl) ?_
    refine lv_iload hx hb d_T_cutNumber_30 (lv_at hl 0 rfl) ?_
    refine lv_icmp_lt (tgt := 37) hx hb d_T_cutNumber_32 (by decide) (fun c_4 => ?_) (fun c_4 => ?_)
    · rw [if_pos c_4] at hf
      refine lv_lconst (v := (0 : Int64)) hx hb d_T_cutNumber_37 (by decide) ?_
      refine lv_lstore (lv' := [(6, .long (0 : Int64)), (5, .int o_3), (4, .int (p1 + (2 : Int32))), (3, .int o_1), (0, .ref aT), (1, .ref aL), (2, .int p1)]) hx hb d_T_cutNumber_38 hl (by decide) rfl (fun ls hl => ?_)
      refine lv_iload hx hb d_T_cutNumber_40 (lv_at hl 2 rfl) ?_
      refine lv_istore (lv' := [(8, .int (p1 + (2 : Int32))), (6, .long (0 : Int64)), (5, .int o_3), (4, .int (p1 + (2 : Int32))), (3, .int o_1), (0, .ref aT), (1, .ref aL), (2, .int p1)]) hx hb d_T_cutNumber_42 hl (by decide) rfl (fun ls hl => ?_)
      exact loop_44 FU tn tk tb te tw ln lb p1 o_1 o_3 (0 : Int64) (p1 + (2 : Int32)) H locs ls hf (hP.sub (ws' := [(aT, .inr (2, [.ref aK, .ref aG, .ref aE, .ref aW, .int tn, .int ts])), (aK, .inl (cK, 1024, .inl tk)), (aG, .inl (cG, 1024, .inl tb)), (aE, .inl (cE, 1024, .inl te)), (aW, .inl (cW, 1024, .inr (.inl tw))), (aL, .inr (1, [.ref aB, .int ln])), (aB, .inl (cB, 1024, .inl lb))]) [0, 1, 2, 3, 4, 5, 6] rfl) (hD.sub (ws' := [(aT, .inr (2, [.ref aK, .ref aG, .ref aE, .ref aW, .int tn, .int ts])), (aK, .inl (cK, 1024, .inl tk)), (aG, .inl (cG, 1024, .inl tb)), (aE, .inl (cE, 1024, .inl te)), (aW, .inl (cW, 1024, .inr (.inl tw))), (aL, .inr (1, [.ref aB, .int ln])), (aB, .inl (cB, 1024, .inl lb))]) [0, 1, 2, 3, 4, 5, 6] (by decide) rfl) hS (lv_sub hl [5, 6, 7, 4, 2, 1, 0] rfl)
    · rw [if_neg c_4] at hf
      refine lv_iconst (v := (-1 : Int32)) hx hb d_T_cutNumber_35 (by decide) ?_
      have ho := Option.some.inj hf
      subst o
      have hP9 := hP.sub (ws' := [(aT, .inr (2, [.ref aK, .ref aG, .ref aE, .ref aW, .int tn, .int ts])), (aK, .inl (cK, 1024, .inl tk)), (aG, .inl (cG, 1024, .inl tb)), (aE, .inl (cE, 1024, .inl te)), (aW, .inl (cW, 1024, .inr (.inl tw))), (aL, .inr (1, [.ref aB, .int ln])), (aB, .inl (cB, 1024, .inl lb))]) [0, 1, 2, 3, 4, 5, 6] rfl
      have hD9 := hD.sub (ws' := [(aT, .inr (2, [.ref aK, .ref aG, .ref aE, .ref aW, .int tn, .int ts])), (aK, .inl (cK, 1024, .inl tk)), (aG, .inl (cG, 1024, .inl tb)), (aE, .inl (cE, 1024, .inl te)), (aW, .inl (cW, 1024, .inr (.inl tw))), (aL, .inr (1, [.ref aB, .int ln])), (aB, .inl (cB, 1024, .inl lb))]) [0, 1, 2, 3, 4, 5, 6] (by decide) rfl
      exact W.iret (v := (-1 : Int32)) hx hb hr (fun t ht hW => ⟨⟨(-1 : Int32), (), rfl, rfl, by rw [ht]; exact hP9, va_K.moved hW.alike hK, hD9⟩, hS.F ht⟩) hS.2.2 d_T_cutNumber_36
  · rw [if_pos c_2] at hf
    refine lv_iload_n hx hb d_T_cutNumber_12 rfl (lv_at hl 3 rfl) ?_
    refine lv_goto (tgt := 19) hx hb d_T_cutNumber_13 (by decide) ?_
    refine lv_istore (lv' := [(4, .int p1), (3, .int o_1), (0, .ref aT), (1, .ref aL), (2, .int p1)]) hx hb d_T_cutNumber_19 hl (by decide) rfl (fun ls hl => ?_)
    refine lv_aload_n hx hb d_T_cutNumber_21 rfl (lv_at hl 3 rfl) ?_
    refine lv_iload_n hx hb d_T_cutNumber_22 rfl (lv_at hl 4 rfl) ?_
    obtain ⟨o_12, hM_12, hf⟩ := bd_some hf
    refine cr_i (va_runS (As := [.ref aL, .int p1]) (rest := []) ⟨hx, hb, hml, hown, hts⟩ (c_S_endOfName l dC dI aL aB cB H.size ln lb p1 o_12 hM_12) (va_cwS 2 hts (gwS wb_46 wb_48 wb_10 wb_47) rfl rfl rfl (by decide +kernel) ⟨Nat.le_of_ble_eq_true rfl, Nat.le_of_ble_eq_true rfl⟩) (pr_S (hP.sub [5, 6] rfl) (hD.sub [5, 6] (by decide) rfl) hK hN [4] rfl) rfl rfl hl.1 rfl (lv_room (Nat.le_of_ble_eq_true rfl)) d_T_cutNumber_23 ⟨Nat.zero_le _, Nat.zero_le _⟩) hP hD hS hA (in_of [5, 6] rfl) (fun r_12 H locs hw hP hS => ?_)
    subst r_12
    refine lv_istore (lv' := [(5, .int o_12), (4, .int p1), (3, .int o_1), (0, .ref aT), (1, .ref aL), (2, .int p1)]) hx hb d_T_cutNumber_26 hl (by decide) rfl (fun ls hl => ?_)
    refine lv_iload hx hb d_T_cutNumber_28 (lv_at hl 1 rfl) ?_
    refine lv_iload hx hb d_T_cutNumber_30 (lv_at hl 0 rfl) ?_
    refine lv_icmp_lt (tgt := 37) hx hb d_T_cutNumber_32 (by decide) (fun c_13 => ?_) (fun c_13 => ?_)
    · rw [if_pos c_13] at hf
      refine lv_lconst (v := (0 : Int64)) hx hb d_T_cutNumber_37 (by decide) ?_
      refine lv_lstore (lv' := [(6, .long (0 : Int64)), (5, .int o_12), (4, .int p1), (3, .int o_1), (0, .ref aT), (1, .ref aL), (2, .int p1)]) hx hb d_T_cutNumber_38 hl (by decide) rfl (fun ls hl => ?_)
      refine lv_iload hx hb d_T_cutNumber_40 (lv_at hl 2 rfl) ?_
      refine lv_istore (lv' := [(8, .int p1), (6, .long (0 : Int64)), (5, .int o_12), (4, .int p1), (3, .int o_1), (0, .ref aT), (1, .ref aL), (2, .int p1)]) hx hb d_T_cutNumber_42 hl (by decide) rfl (fun ls hl => ?_)
      exact loop_44 FU tn tk tb te tw ln lb p1 o_1 o_12 (0 : Int64) p1 H locs ls hf (hP.sub (ws' := [(aT, .inr (2, [.ref aK, .ref aG, .ref aE, .ref aW, .int tn, .int ts])), (aK, .inl (cK, 1024, .inl tk)), (aG, .inl (cG, 1024, .inl tb)), (aE, .inl (cE, 1024, .inl te)), (aW, .inl (cW, 1024, .inr (.inl tw))), (aL, .inr (1, [.ref aB, .int ln])), (aB, .inl (cB, 1024, .inl lb))]) [0, 1, 2, 3, 4, 5, 6] rfl) (hD.sub (ws' := [(aT, .inr (2, [.ref aK, .ref aG, .ref aE, .ref aW, .int tn, .int ts])), (aK, .inl (cK, 1024, .inl tk)), (aG, .inl (cG, 1024, .inl tb)), (aE, .inl (cE, 1024, .inl te)), (aW, .inl (cW, 1024, .inr (.inl tw))), (aL, .inr (1, [.ref aB, .int ln])), (aB, .inl (cB, 1024, .inl lb))]) [0, 1, 2, 3, 4, 5, 6] (by decide) rfl) hS (lv_sub hl [5, 6, 7, 4, 2, 1, 0] rfl)
    · rw [if_neg c_13] at hf
      refine lv_iconst (v := (-1 : Int32)) hx hb d_T_cutNumber_35 (by decide) ?_
      have ho := Option.some.inj hf
      subst o
      have hP9 := hP.sub (ws' := [(aT, .inr (2, [.ref aK, .ref aG, .ref aE, .ref aW, .int tn, .int ts])), (aK, .inl (cK, 1024, .inl tk)), (aG, .inl (cG, 1024, .inl tb)), (aE, .inl (cE, 1024, .inl te)), (aW, .inl (cW, 1024, .inr (.inl tw))), (aL, .inr (1, [.ref aB, .int ln])), (aB, .inl (cB, 1024, .inl lb))]) [0, 1, 2, 3, 4, 5, 6] rfl
      have hD9 := hD.sub (ws' := [(aT, .inr (2, [.ref aK, .ref aG, .ref aE, .ref aW, .int tn, .int ts])), (aK, .inl (cK, 1024, .inl tk)), (aG, .inl (cG, 1024, .inl tb)), (aE, .inl (cE, 1024, .inl te)), (aW, .inl (cW, 1024, .inr (.inl tw))), (aL, .inr (1, [.ref aB, .int ln])), (aB, .inl (cB, 1024, .inl lb))]) [0, 1, 2, 3, 4, 5, 6] (by decide) rfl
      exact W.iret (v := (-1 : Int32)) hx hb hr (fun t ht hW => ⟨⟨(-1 : Int32), (), rfl, rfl, by rw [ht]; exact hP9, va_K.moved hW.alike hK, hD9⟩, hS.F ht⟩) hS.2.2 d_T_cutNumber_36

def f_T_cutCharacter (tn : Int32) (tk : Nat → Int32) (tb : Nat → Int32) (te : Nat → Int32) (tw : Nat → Int64) (ln : Int32) (lb : Nat → Int32) (p1 : Int32) : Option (Int32 × Int32 × (Nat → Int32) × (Nat → Int32) × (Nat → Int32) × (Nat → Int64)) := (f_S_widthOfCharacter ln lb (p1 + (1 : Int32)) (39 : Int32)).bind (fun o_1 => if o_1 = (0 : Int32) then some ((-1 : Int32), tn, tk, tb, te, tw) else (f_L_at ln lb ((p1 + (1 : Int32)) + o_1)).bind (fun o_3 => if o_3 = (39 : Int32) then (f_L_at ln lb (((p1 + (1 : Int32)) + o_1) + (1 : Int32))).bind (fun o_5 => (f_S_isOfNames o_5).bind (fun o_6 => if o_6 = (0 : Int32) then (f_L_at ln lb (((p1 + (1 : Int32)) + o_1) - (1 : Int32))).bind (fun o_8 => if o_1 = (2 : Int32) then (f_S_worthOfEscape o_8).bind (fun o_11 => (f_T_keep tn tk tb te tw (2 : Int32) p1 (((p1 + (1 : Int32)) + o_1) + (1 : Int32)) o_11.toInt64).bind (fun o_12 => some (o_12.1, o_12.2.1, o_12.2.2.1, o_12.2.2.2.1, o_12.2.2.2.2.1, o_12.2.2.2.2.2))) else (f_T_keep tn tk tb te tw (2 : Int32) p1 (((p1 + (1 : Int32)) + o_1) + (1 : Int32)) o_8.toInt64).bind (fun o_10 => some (o_10.1, o_10.2.1, o_10.2.2.1, o_10.2.2.2.1, o_10.2.2.2.2.1, o_10.2.2.2.2.2))) else some ((-1 : Int32), tn, tk, tb, te, tw))) else some ((-1 : Int32), tn, tk, tb, te, tw)))
set_option maxHeartbeats 4000000 in
set_option maxRecDepth 100000 in
theorem c_T_cutCharacter (l : Launch) (dC : Nat → ClassId) (dI : Nat → Nat → Nat) (aT aK aG aE aW aL aB : Nat) (cK cG cE cW cB : ClassId) (sz : Nat) (tn : Int32) (ts : Int32) (tk : Nat → Int32) (tb : Nat → Int32) (te : Nat → Int32) (tw : Nat → Int64) (ln : Int32) (lb : Nat → Int32) (p1 : Int32) (o : Int32 × Int32 × (Nat → Int32) × (Nat → Int32) × (Nat → Int32) × (Nat → Int64)) (hf : f_T_cutCharacter tn tk tb te tw ln lb p1 = some o) : Met l y_T_cutCharacter (w_T_cutCharacter) ({ frames := 2, cells := 0, slots := 0, locals := 44 }) (va_Pc [.ref aT, .ref aL, .int p1] (fun U => U.heap.size = sz ∧ va_P (dC, dI) vwCl [(aT, .inr (2, [.ref aK, .ref aG, .ref aE, .ref aW, .int tn, .int ts])), (aK, .inl (cK, 1024, .inl tk)), (aG, .inl (cG, 1024, .inl tb)), (aE, .inl (cE, 1024, .inl te)), (aW, .inl (cW, 1024, .inr (.inl tw))), (aL, .inr (1, [.ref aB, .int ln])), (aB, .inl (cB, 1024, .inl lb))] U.heap ∧ va_K (dC, dI) vwCl [(cK, .byte), (cG, .int), (cE, .int), (cW, .long), (cB, .byte)] U ∧ va_D (fun _ => True) [(aT, .inr (2, [.ref aK, .ref aG, .ref aE, .ref aW, .int tn, .int ts])), (aK, .inl (cK, 1024, .inl tk)), (aG, .inl (cG, 1024, .inl tb)), (aE, .inl (cE, 1024, .inl te)), (aW, .inl (cW, 1024, .inr (.inl tw))), (aL, .inr (1, [.ref aB, .int ln])), (aB, .inl (cB, 1024, .inl lb))] ∧ NW U)) (va_Qi (fun (r : Int32) (_ : Unit) => r = o.1) (fun _ t => va_P (dC, dI) vwCl [(aT, .inr (2, [.ref aK, .ref aG, .ref aE, .ref aW, .int o.2.1, .int ts])), (aK, .inl (cK, 1024, .inl o.2.2.1)), (aG, .inl (cG, 1024, .inl o.2.2.2.1)), (aE, .inl (cE, 1024, .inl o.2.2.2.2.1)), (aW, .inl (cW, 1024, .inr (.inl o.2.2.2.2.2))), (aL, .inr (1, [.ref aB, .int ln])), (aB, .inl (cB, 1024, .inl lb))] t.heap ∧ va_K (dC, dI) vwCl [(cK, .byte), (cG, .int), (cE, .int), (cW, .long), (cB, .byte)] t ∧ va_D (va_A [(aT, .inr (2, [.ref aK, .ref aG, .ref aE, .ref aW, .int tn, .int ts])), (aK, .inl (cK, 1024, .inl tk)), (aG, .inl (cG, 1024, .inl tb)), (aE, .inl (cE, 1024, .inl te)), (aW, .inl (cW, 1024, .inr (.inl tw))), (aL, .inr (1, [.ref aB, .int ln])), (aB, .inl (cB, 1024, .inl lb))] sz) [(aT, .inr (2, [.ref aK, .ref aG, .ref aE, .ref aW, .int o.2.1, .int ts])), (aK, .inl (cK, 1024, .inl o.2.2.1)), (aG, .inl (cG, 1024, .inl o.2.2.2.1)), (aE, .inl (cE, 1024, .inl o.2.2.2.2.1)), (aW, .inl (cW, 1024, .inr (.inl o.2.2.2.2.2))), (aL, .inr (1, [.ref aB, .int ln])), (aB, .inl (cB, 1024, .inl lb))]) (va_A [(aT, .inr (2, [.ref aK, .ref aG, .ref aE, .ref aW, .int tn, .int ts])), (aK, .inl (cK, 1024, .inl tk)), (aG, .inl (cG, 1024, .inl tb)), (aE, .inl (cE, 1024, .inl te)), (aW, .inl (cW, 1024, .inr (.inl tw))), (aL, .inr (1, [.ref aB, .int ln])), (aB, .inl (cB, 1024, .inl lb))] sz)) 0 0 (va_A [(aT, .inr (2, [.ref aK, .ref aG, .ref aE, .ref aW, .int tn, .int ts])), (aK, .inl (cK, 1024, .inl tk)), (aG, .inl (cG, 1024, .inl tb)), (aE, .inl (cE, 1024, .inl te)), (aW, .inl (cW, 1024, .inr (.inl tw))), (aL, .inr (1, [.ref aB, .int ln])), (aB, .inl (cB, 1024, .inl lb))] sz) := by
  refine Met.ofW (cc := b_T_cutCharacter) (maxL := 6) (ret := (some .int)) (by decide) rfl ?_
  intro p e s m args below meth c s₁ B hml hv
  obtain ⟨rfl, hsz, hP, hK, hD0, hN⟩ := hv
  have hx := B.exec
  have hb := B.bytes
  have hr := B.returns
  have hts : ∀ w ∈ WB, w.before _ s = true := fun w h => atoms_spec (ws := w_T_cutCharacter) B.pre w (List.mem_cons_of_mem _ h)
  have hown : s.vm.findClass R_T = some m.cls := findClass_of_methodNamed B.named
  have hlocks := B.notSynchronized
  subst hsz
  have hD := hD0.self (sz := s.heap.size)
  generalize hAe : va_A [(aT, .inr (2, [.ref aK, .ref aG, .ref aE, .ref aW, .int tn, .int ts])), (aK, .inl (cK, 1024, .inl tk)), (aG, .inl (cG, 1024, .inl tb)), (aE, .inl (cE, 1024, .inl te)), (aW, .inl (cW, 1024, .inr (.inl tw))), (aL, .inr (1, [.ref aB, .int ln])), (aB, .inl (cB, 1024, .inl lb))] s.heap.size = A at hD ⊢
  have hA : ∀ q : Nat, s.heap.size ≤ q → A q := fun q h => by rw [← hAe]; exact Or.inr h
  have hS : va_S A s.heap s.heap [] := va_S.rf
  have hP : va_P (dC, dI) vwCl [(aT, .inr (2, [.ref aK, .ref aG, .ref aE, .ref aW, .int tn, .int ts])), (aK, .inl (cK, 1024, .inl tk)), (aG, .inl (cG, 1024, .inl tb)), (aE, .inl (cE, 1024, .inl te)), (aW, .inl (cW, 1024, .inr (.inl tw))), (aL, .inr (1, [.ref aB, .int ln])), (aB, .inl (cB, 1024, .inl lb))] s.heap := hP
  have hl := lv_entry [.ref aT, .ref aL, .int p1] (n := 6) (Nat.le_of_ble_eq_true rfl)
  rw [lg_entry_eq]
  generalize (lg_sl [.ref aT, .ref aL, .int p1] ++ List.replicate (6 - (lg_sl [.ref aT, .ref aL, .int p1]).length) Slot.unset).toArray = ls at hl ⊢
  have hl : lv_has ls 6 [(0, .ref aT), (1, .ref aL), (2, .int p1)] := hl
  rw [f_T_cutCharacter] at hf
  refine lv_aload_n hx hb d_T_cutCharacter_0 rfl (lv_at hl 1 rfl) ?_
  refine lv_iload_n hx hb d_T_cutCharacter_1 rfl (lv_at hl 2 rfl) ?_
  refine lv_iconst (v := (1 : Int32)) hx hb d_T_cutCharacter_2 (by decide) ?_
  refine lv_iadd hx hb d_T_cutCharacter_3 ?_
  refine lv_bipush (v := (39 : Int32)) hx hb d_T_cutCharacter_4 (by decide) ?_
  obtain ⟨o_1, hM_1, hf⟩ := bd_some hf
  refine cr_i (va_runS (As := [.ref aL, .int (p1 + (1 : Int32)), .int (39 : Int32)]) (rest := []) ⟨hx, hb, hml, hown, hts⟩ (c_S_widthOfCharacter l dC dI aL aB cB s.heap.size ln lb (p1 + (1 : Int32)) (39 : Int32) o_1 hM_1) (va_cwS 3 hts (gwS wb_63 wb_24 wb_10 wb_23) rfl rfl rfl (by decide +kernel) ⟨Nat.le_of_ble_eq_true rfl, Nat.le_of_ble_eq_true rfl⟩) (pr_S (hP.sub [5, 6] rfl) (hD.sub [5, 6] (by decide) rfl) hK hN [4] rfl) rfl rfl hl.1 rfl (lv_room (Nat.le_of_ble_eq_true rfl)) d_T_cutCharacter_6 ⟨Nat.zero_le _, Nat.zero_le _⟩) hP hD hS hA (in_of [5, 6] rfl) (fun r_1 H locs hw hP hS => ?_)
  subst r_1
  refine lv_istore_n (lv' := [(3, .int o_1), (0, .ref aT), (1, .ref aL), (2, .int p1)]) hx hb d_T_cutCharacter_9 rfl hl (by decide) rfl (fun ls hl => ?_)
  refine lv_iload_n hx hb d_T_cutCharacter_10 rfl (lv_at hl 3 rfl) ?_
  refine lv_iconst (v := (1 : Int32)) hx hb d_T_cutCharacter_11 (by decide) ?_
  refine lv_iadd hx hb d_T_cutCharacter_12 ?_
  refine lv_iload_n hx hb d_T_cutCharacter_13 rfl (lv_at hl 0 rfl) ?_
  refine lv_iadd hx hb d_T_cutCharacter_14 ?_
  refine lv_istore (lv' := [(4, .int ((p1 + (1 : Int32)) + o_1)), (3, .int o_1), (0, .ref aT), (1, .ref aL), (2, .int p1)]) hx hb d_T_cutCharacter_15 hl (by decide) rfl (fun ls hl => ?_)
  refine lv_iload_n hx hb d_T_cutCharacter_17 rfl (lv_at hl 1 rfl) ?_
  refine lv_if_eq (tgt := 46) hx hb d_T_cutCharacter_18 (by decide) (fun c_2 => ?_) (fun c_2 => ?_)
  · rw [if_pos c_2] at hf
    refine lv_iconst (v := (-1 : Int32)) hx hb d_T_cutCharacter_46 (by decide) ?_
    have ho := Option.some.inj hf
    subst o
    have hP9 := hP.sub (ws' := [(aT, .inr (2, [.ref aK, .ref aG, .ref aE, .ref aW, .int tn, .int ts])), (aK, .inl (cK, 1024, .inl tk)), (aG, .inl (cG, 1024, .inl tb)), (aE, .inl (cE, 1024, .inl te)), (aW, .inl (cW, 1024, .inr (.inl tw))), (aL, .inr (1, [.ref aB, .int ln])), (aB, .inl (cB, 1024, .inl lb))]) [0, 1, 2, 3, 4, 5, 6] rfl
    have hD9 := hD.sub (ws' := [(aT, .inr (2, [.ref aK, .ref aG, .ref aE, .ref aW, .int tn, .int ts])), (aK, .inl (cK, 1024, .inl tk)), (aG, .inl (cG, 1024, .inl tb)), (aE, .inl (cE, 1024, .inl te)), (aW, .inl (cW, 1024, .inr (.inl tw))), (aL, .inr (1, [.ref aB, .int ln])), (aB, .inl (cB, 1024, .inl lb))]) [0, 1, 2, 3, 4, 5, 6] (by decide) rfl
    exact W.iret (v := (-1 : Int32)) hx hb hr (fun t ht hW => ⟨⟨(-1 : Int32), (), rfl, rfl, by rw [ht]; exact hP9, va_K.moved hW.alike hK, hD9⟩, hS.F ht⟩) hS.2.2 d_T_cutCharacter_47
  · rw [if_neg c_2] at hf
    refine lv_aload_n hx hb d_T_cutCharacter_21 rfl (lv_at hl 3 rfl) ?_
    refine lv_iload hx hb d_T_cutCharacter_22 (lv_at hl 0 rfl) ?_
    obtain ⟨o_3, hM_3, hf⟩ := bd_some hf
    refine cr_i (va_runV (As := [.int ((p1 + (1 : Int32)) + o_1)]) (rest := []) ⟨hx, hb, hml, hown, hts⟩ (c_L_at l dC dI aL aB cB H.size ln lb ((p1 + (1 : Int32)) + o_1) o_3 hM_3) (cwV 1 hts (gwV wb_56 wb_4 wb_5 wb_6 wb_3) rfl rfl rfl (by decide +kernel) ⟨Nat.le_of_ble_eq_true rfl, Nat.le_of_ble_eq_true rfl⟩) (pr_V (hP.sub [5, 6] rfl) (hD.sub [5, 6] (by decide) rfl) hK hN [4] rfl (ci := 1) rfl rfl rfl) rfl rfl hl.1 rfl (lv_room (Nat.le_of_ble_eq_true rfl)) d_T_cutCharacter_24 ⟨Nat.zero_le _, Nat.zero_le _⟩) hP hD hS hA (in_of [5, 6] rfl) (fun r_3 H locs hw hP hS => ?_)
    subst r_3
    refine lv_bipush (v := (39 : Int32)) hx hb d_T_cutCharacter_27 (by decide) ?_
    refine lv_icmp_ne (tgt := 46) hx hb d_T_cutCharacter_29 (by decide) (fun c_4 => ?_) (fun c_4 => ?_)
    · rw [if_neg c_4] at hf
      refine lv_iconst (v := (-1 : Int32)) hx hb d_T_cutCharacter_46 (by decide) ?_
      have ho := Option.some.inj hf
      subst o
      have hP9 := hP.sub (ws' := [(aT, .inr (2, [.ref aK, .ref aG, .ref aE, .ref aW, .int tn, .int ts])), (aK, .inl (cK, 1024, .inl tk)), (aG, .inl (cG, 1024, .inl tb)), (aE, .inl (cE, 1024, .inl te)), (aW, .inl (cW, 1024, .inr (.inl tw))), (aL, .inr (1, [.ref aB, .int ln])), (aB, .inl (cB, 1024, .inl lb))]) [0, 1, 2, 3, 4, 5, 6] rfl
      have hD9 := hD.sub (ws' := [(aT, .inr (2, [.ref aK, .ref aG, .ref aE, .ref aW, .int tn, .int ts])), (aK, .inl (cK, 1024, .inl tk)), (aG, .inl (cG, 1024, .inl tb)), (aE, .inl (cE, 1024, .inl te)), (aW, .inl (cW, 1024, .inr (.inl tw))), (aL, .inr (1, [.ref aB, .int ln])), (aB, .inl (cB, 1024, .inl lb))]) [0, 1, 2, 3, 4, 5, 6] (by decide) rfl
      exact W.iret (v := (-1 : Int32)) hx hb hr (fun t ht hW => ⟨⟨(-1 : Int32), (), rfl, rfl, by rw [ht]; exact hP9, va_K.moved hW.alike hK, hD9⟩, hS.F ht⟩) hS.2.2 d_T_cutCharacter_47
    · rw [if_pos c_4] at hf
      refine lv_aload_n hx hb d_T_cutCharacter_32 rfl (lv_at hl 3 rfl) ?_
      refine lv_iload hx hb d_T_cutCharacter_33 (lv_at hl 0 rfl) ?_
      refine lv_iconst (v := (1 : Int32)) hx hb d_T_cutCharacter_35 (by decide) ?_
      refine lv_iadd hx hb d_T_cutCharacter_36 ?_
      obtain ⟨o_5, hM_5, hf⟩ := bd_some hf
      refine cr_i (va_runV (As := [.int (((p1 + (1 : Int32)) + o_1) + (1 : Int32))]) (rest := []) ⟨hx, hb, hml, hown, hts⟩ (c_L_at l dC dI aL aB cB H.size ln lb (((p1 + (1 : Int32)) + o_1) + (1 : Int32)) o_5 hM_5) (cwV 1 hts (gwV wb_56 wb_4 wb_5 wb_6 wb_3) rfl rfl rfl (by decide +kernel) ⟨Nat.le_of_ble_eq_true rfl, Nat.le_of_ble_eq_true rfl⟩) (pr_V (hP.sub [5, 6] rfl) (hD.sub [5, 6] (by decide) rfl) hK hN [4] rfl (ci := 1) rfl rfl rfl) rfl rfl hl.1 rfl (lv_room (Nat.le_of_ble_eq_true rfl)) d_T_cutCharacter_37 ⟨Nat.zero_le _, Nat.zero_le _⟩) hP hD hS hA (in_of [5, 6] rfl) (fun r_5 H locs hw hP hS => ?_)
      subst r_5
      obtain ⟨o_6, hM_6, hf⟩ := bd_some hf
      refine cr_i (va_runS (As := [.int o_5]) (rest := []) ⟨hx, hb, hml, hown, hts⟩ (c_S_isOfNames l dC dI   H.size  o_5 o_6 hM_6) (va_cwS 1 hts (gwS wb_64 wb_18 wb_10 wb_17) rfl rfl rfl (by decide +kernel) ⟨Nat.le_of_ble_eq_true rfl, Nat.le_of_ble_eq_true rfl⟩) (pr_S (hP.sub [] rfl) (hD.sub [] (by decide) rfl) hK hN [] rfl) rfl rfl hl.1 rfl (lv_room (Nat.le_of_ble_eq_true rfl)) d_T_cutCharacter_40 ⟨Nat.zero_le _, Nat.zero_le _⟩) hP hD hS hA (in_of [] rfl) (fun r_6 H locs hw hP hS => ?_)
      obtain ⟨hw, hz_6⟩ := hw
      subst r_6
      refine lv_if_eq (tgt := 48) hx hb d_T_cutCharacter_43 (by decide) (fun c_7 => ?_) (fun c_7 => ?_)
      · rw [if_pos c_7] at hf
        refine lv_aload_n hx hb d_T_cutCharacter_48 rfl (lv_at hl 3 rfl) ?_
        refine lv_iload hx hb d_T_cutCharacter_49 (lv_at hl 0 rfl) ?_
        refine lv_iconst (v := (1 : Int32)) hx hb d_T_cutCharacter_51 (by decide) ?_
        refine lv_isub hx hb d_T_cutCharacter_52 ?_
        obtain ⟨o_8, hM_8, hf⟩ := bd_some hf
        refine cr_i (va_runV (As := [.int (((p1 + (1 : Int32)) + o_1) - (1 : Int32))]) (rest := []) ⟨hx, hb, hml, hown, hts⟩ (c_L_at l dC dI aL aB cB H.size ln lb (((p1 + (1 : Int32)) + o_1) - (1 : Int32)) o_8 hM_8) (cwV 1 hts (gwV wb_56 wb_4 wb_5 wb_6 wb_3) rfl rfl rfl (by decide +kernel) ⟨Nat.le_of_ble_eq_true rfl, Nat.le_of_ble_eq_true rfl⟩) (pr_V (hP.sub [5, 6] rfl) (hD.sub [5, 6] (by decide) rfl) hK hN [4] rfl (ci := 1) rfl rfl rfl) rfl rfl hl.1 rfl (lv_room (Nat.le_of_ble_eq_true rfl)) d_T_cutCharacter_53 ⟨Nat.zero_le _, Nat.zero_le _⟩) hP hD hS hA (in_of [5, 6] rfl) (fun r_8 H locs hw hP hS => ?_)
        subst r_8
        refine lv_istore (lv' := [(5, .int o_8), (4, .int ((p1 + (1 : Int32)) + o_1)), (3, .int o_1), (0, .ref aT), (1, .ref aL), (2, .int p1)]) hx hb d_T_cutCharacter_56 hl (by decide) rfl (fun ls hl => ?_)
        refine lv_aload_n hx hb d_T_cutCharacter_58 rfl (lv_at hl 3 rfl) ?_
        refine lv_iconst (v := (2 : Int32)) hx hb d_T_cutCharacter_59 (by decide) ?_
        refine lv_iload_n hx hb d_T_cutCharacter_60 rfl (lv_at hl 5 rfl) ?_
        refine lv_iload hx hb d_T_cutCharacter_61 (lv_at hl 1 rfl) ?_
        refine lv_iconst (v := (1 : Int32)) hx hb d_T_cutCharacter_63 (by decide) ?_
        refine lv_iadd hx hb d_T_cutCharacter_64 ?_
        refine lv_iload_n hx hb d_T_cutCharacter_65 rfl (lv_at hl 2 rfl) ?_
        refine lv_iconst (v := (2 : Int32)) hx hb d_T_cutCharacter_66 (by decide) ?_
        refine lv_icmp_ne (tgt := 79) hx hb d_T_cutCharacter_67 (by decide) (fun c_9 => ?_) (fun c_9 => ?_)
        · rw [if_neg c_9] at hf
          refine lv_iload hx hb d_T_cutCharacter_79 (lv_at hl 0 rfl) ?_
          refine lv_i2l (v := o_8.toInt64) hx hb d_T_cutCharacter_81 rfl ?_
          obtain ⟨o_10, hM_10, hf⟩ := bd_some hf
          refine cl_i (wr := [(aL, .inr (1, [.ref aB, .int ln])), (aB, .inl (cB, 1024, .inl lb))]) (va_runV (As := [.int (2 : Int32), .int p1, .int (((p1 + (1 : Int32)) + o_1) + (1 : Int32)), .long o_8.toInt64]) (rest := []) ⟨hx, hb, hml, hown, hts⟩ (c_T_keep l dC dI aT aK aG aE aW cK cG cE cW H.size tn ts tk tb te tw (2 : Int32) p1 (((p1 + (1 : Int32)) + o_1) + (1 : Int32)) o_8.toInt64 o_10 hM_10) (cwV 4 hts (gwV wb_49 wb_51 wb_52 wb_32 wb_50) rfl rfl rfl (by decide +kernel) ⟨Nat.le_of_ble_eq_true rfl, Nat.le_of_ble_eq_true rfl⟩) (pr_V (hP.sub [0, 1, 2, 3, 4] rfl) (hD.sub [0, 1, 2, 3, 4] (by decide) rfl) hK hN [0, 1, 2, 3] rfl (ci := 2) rfl rfl rfl) rfl rfl hl.1 rfl (lv_room (Nat.le_of_ble_eq_true rfl)) d_T_cutCharacter_82 ⟨Nat.zero_le _, Nat.zero_le _⟩) hP hD hS hA [0, 1, 2, 3, 4] [5, 6] rfl rfl (by decide) (by decide) (fun r_10 H locs hw hP hD hS => ?_)
          subst r_10
          have hP : va_P (dC, dI) vwCl [(aL, .inr (1, [.ref aB, .int ln])), (aB, .inl (cB, 1024, .inl lb)), (aT, .inr (2, [.ref aK, .ref aG, .ref aE, .ref aW, .int o_10.2.1, .int ts])), (aK, .inl (cK, 1024, .inl o_10.2.2.1)), (aG, .inl (cG, 1024, .inl o_10.2.2.2.1)), (aE, .inl (cE, 1024, .inl o_10.2.2.2.2.1)), (aW, .inl (cW, 1024, .inr (.inl o_10.2.2.2.2.2)))] H := hP
          have hD : va_D A [(aL, .inr (1, [.ref aB, .int ln])), (aB, .inl (cB, 1024, .inl lb)), (aT, .inr (2, [.ref aK, .ref aG, .ref aE, .ref aW, .int o_10.2.1, .int ts])), (aK, .inl (cK, 1024, .inl o_10.2.2.1)), (aG, .inl (cG, 1024, .inl o_10.2.2.2.1)), (aE, .inl (cE, 1024, .inl o_10.2.2.2.2.1)), (aW, .inl (cW, 1024, .inr (.inl o_10.2.2.2.2.2)))] := hD
          have ho := Option.some.inj hf
          subst o
          have hP9 := hP.sub (ws' := [(aT, .inr (2, [.ref aK, .ref aG, .ref aE, .ref aW, .int o_10.2.1, .int ts])), (aK, .inl (cK, 1024, .inl o_10.2.2.1)), (aG, .inl (cG, 1024, .inl o_10.2.2.2.1)), (aE, .inl (cE, 1024, .inl o_10.2.2.2.2.1)), (aW, .inl (cW, 1024, .inr (.inl o_10.2.2.2.2.2))), (aL, .inr (1, [.ref aB, .int ln])), (aB, .inl (cB, 1024, .inl lb))]) [2, 3, 4, 5, 6, 0, 1] rfl
          have hD9 := hD.sub (ws' := [(aT, .inr (2, [.ref aK, .ref aG, .ref aE, .ref aW, .int o_10.2.1, .int ts])), (aK, .inl (cK, 1024, .inl o_10.2.2.1)), (aG, .inl (cG, 1024, .inl o_10.2.2.2.1)), (aE, .inl (cE, 1024, .inl o_10.2.2.2.2.1)), (aW, .inl (cW, 1024, .inr (.inl o_10.2.2.2.2.2))), (aL, .inr (1, [.ref aB, .int ln])), (aB, .inl (cB, 1024, .inl lb))]) [2, 3, 4, 5, 6, 0, 1] (by decide) rfl
          exact W.iret (v := o_10.1) hx hb hr (fun t ht hW => ⟨⟨o_10.1, (), rfl, rfl, by rw [ht]; exact hP9, va_K.moved hW.alike hK, hD9⟩, hS.F ht⟩) hS.2.2 d_T_cutCharacter_85
        · rw [if_pos c_9] at hf
          refine lv_iload hx hb d_T_cutCharacter_70 (lv_at hl 0 rfl) ?_
          obtain ⟨o_11, hM_11, hf⟩ := bd_some hf
          refine cr_i (va_runS (As := [.int o_8]) (rest := [.int (((p1 + (1 : Int32)) + o_1) + (1 : Int32)), .int p1, .int (2 : Int32), .ref aT]) ⟨hx, hb, hml, hown, hts⟩ (c_S_worthOfEscape l dC dI   H.size  o_8 o_11 hM_11) (va_cwS 1 hts (gwS wb_65 wb_67 wb_10 wb_66) rfl rfl rfl (by decide +kernel) ⟨Nat.le_of_ble_eq_true rfl, Nat.le_of_ble_eq_true rfl⟩) (pr_S (hP.sub [] rfl) (hD.sub [] (by decide) rfl) hK hN [] rfl) rfl rfl hl.1 rfl (lv_room (Nat.le_of_ble_eq_true rfl)) d_T_cutCharacter_72 ⟨Nat.zero_le _, Nat.zero_le _⟩) hP hD hS hA (in_of [] rfl) (fun r_11 H locs hw hP hS => ?_)
          subst r_11
          refine lv_i2l (v := o_11.toInt64) hx hb d_T_cutCharacter_75 rfl ?_
          refine lv_goto (tgt := 82) hx hb d_T_cutCharacter_76 (by decide) ?_
          obtain ⟨o_12, hM_12, hf⟩ := bd_some hf
          refine cl_i (wr := [(aL, .inr (1, [.ref aB, .int ln])), (aB, .inl (cB, 1024, .inl lb))]) (va_runV (As := [.int (2 : Int32), .int p1, .int (((p1 + (1 : Int32)) + o_1) + (1 : Int32)), .long o_11.toInt64]) (rest := []) ⟨hx, hb, hml, hown, hts⟩ (c_T_keep l dC dI aT aK aG aE aW cK cG cE cW H.size tn ts tk tb te tw (2 : Int32) p1 (((p1 + (1 : Int32)) + o_1) + (1 : Int32)) o_11.toInt64 o_12 hM_12) (cwV 4 hts (gwV wb_49 wb_51 wb_52 wb_32 wb_50) rfl rfl rfl (by decide +kernel) ⟨Nat.le_of_ble_eq_true rfl, Nat.le_of_ble_eq_true rfl⟩) (pr_V (hP.sub [0, 1, 2, 3, 4] rfl) (hD.sub [0, 1, 2, 3, 4] (by decide) rfl) hK hN [0, 1, 2, 3] rfl (ci := 2) rfl rfl rfl) rfl rfl hl.1 rfl (lv_room (Nat.le_of_ble_eq_true rfl)) d_T_cutCharacter_82 ⟨Nat.zero_le _, Nat.zero_le _⟩) hP hD hS hA [0, 1, 2, 3, 4] [5, 6] rfl rfl (by decide) (by decide) (fun r_12 H locs hw hP hD hS => ?_)
          subst r_12
          have hP : va_P (dC, dI) vwCl [(aL, .inr (1, [.ref aB, .int ln])), (aB, .inl (cB, 1024, .inl lb)), (aT, .inr (2, [.ref aK, .ref aG, .ref aE, .ref aW, .int o_12.2.1, .int ts])), (aK, .inl (cK, 1024, .inl o_12.2.2.1)), (aG, .inl (cG, 1024, .inl o_12.2.2.2.1)), (aE, .inl (cE, 1024, .inl o_12.2.2.2.2.1)), (aW, .inl (cW, 1024, .inr (.inl o_12.2.2.2.2.2)))] H := hP
          have hD : va_D A [(aL, .inr (1, [.ref aB, .int ln])), (aB, .inl (cB, 1024, .inl lb)), (aT, .inr (2, [.ref aK, .ref aG, .ref aE, .ref aW, .int o_12.2.1, .int ts])), (aK, .inl (cK, 1024, .inl o_12.2.2.1)), (aG, .inl (cG, 1024, .inl o_12.2.2.2.1)), (aE, .inl (cE, 1024, .inl o_12.2.2.2.2.1)), (aW, .inl (cW, 1024, .inr (.inl o_12.2.2.2.2.2)))] := hD
          have ho := Option.some.inj hf
          subst o
          have hP9 := hP.sub (ws' := [(aT, .inr (2, [.ref aK, .ref aG, .ref aE, .ref aW, .int o_12.2.1, .int ts])), (aK, .inl (cK, 1024, .inl o_12.2.2.1)), (aG, .inl (cG, 1024, .inl o_12.2.2.2.1)), (aE, .inl (cE, 1024, .inl o_12.2.2.2.2.1)), (aW, .inl (cW, 1024, .inr (.inl o_12.2.2.2.2.2))), (aL, .inr (1, [.ref aB, .int ln])), (aB, .inl (cB, 1024, .inl lb))]) [2, 3, 4, 5, 6, 0, 1] rfl
          have hD9 := hD.sub (ws' := [(aT, .inr (2, [.ref aK, .ref aG, .ref aE, .ref aW, .int o_12.2.1, .int ts])), (aK, .inl (cK, 1024, .inl o_12.2.2.1)), (aG, .inl (cG, 1024, .inl o_12.2.2.2.1)), (aE, .inl (cE, 1024, .inl o_12.2.2.2.2.1)), (aW, .inl (cW, 1024, .inr (.inl o_12.2.2.2.2.2))), (aL, .inr (1, [.ref aB, .int ln])), (aB, .inl (cB, 1024, .inl lb))]) [2, 3, 4, 5, 6, 0, 1] (by decide) rfl
          exact W.iret (v := o_12.1) hx hb hr (fun t ht hW => ⟨⟨o_12.1, (), rfl, rfl, by rw [ht]; exact hP9, va_K.moved hW.alike hK, hD9⟩, hS.F ht⟩) hS.2.2 d_T_cutCharacter_85
      · rw [if_neg c_7] at hf
        refine lv_iconst (v := (-1 : Int32)) hx hb d_T_cutCharacter_46 (by decide) ?_
        have ho := Option.some.inj hf
        subst o
        have hP9 := hP.sub (ws' := [(aT, .inr (2, [.ref aK, .ref aG, .ref aE, .ref aW, .int tn, .int ts])), (aK, .inl (cK, 1024, .inl tk)), (aG, .inl (cG, 1024, .inl tb)), (aE, .inl (cE, 1024, .inl te)), (aW, .inl (cW, 1024, .inr (.inl tw))), (aL, .inr (1, [.ref aB, .int ln])), (aB, .inl (cB, 1024, .inl lb))]) [0, 1, 2, 3, 4, 5, 6] rfl
        have hD9 := hD.sub (ws' := [(aT, .inr (2, [.ref aK, .ref aG, .ref aE, .ref aW, .int tn, .int ts])), (aK, .inl (cK, 1024, .inl tk)), (aG, .inl (cG, 1024, .inl tb)), (aE, .inl (cE, 1024, .inl te)), (aW, .inl (cW, 1024, .inr (.inl tw))), (aL, .inr (1, [.ref aB, .int ln])), (aB, .inl (cB, 1024, .inl lb))]) [0, 1, 2, 3, 4, 5, 6] (by decide) rfl
        exact W.iret (v := (-1 : Int32)) hx hb hr (fun t ht hW => ⟨⟨(-1 : Int32), (), rfl, rfl, by rw [ht]; exact hP9, va_K.moved hW.alike hK, hD9⟩, hS.F ht⟩) hS.2.2 d_T_cutCharacter_47

def f_T_cutText (tn : Int32) (tk : Nat → Int32) (tb : Nat → Int32) (te : Nat → Int32) (tw : Nat → Int64) (ln : Int32) (lb : Nat → Int32) (p1 : Int32) : Option (Int32 × Int32 × (Nat → Int32) × (Nat → Int32) × (Nat → Int32) × (Nat → Int64)) := (f_S_endOfCharacters ln lb (p1 + (1 : Int32)) (34 : Int32)).bind (fun o_1 => (f_L_at ln lb o_1).bind (fun o_2 => if o_2 = (34 : Int32) then (f_T_keep tn tk tb te tw (3 : Int32) p1 (o_1 + (1 : Int32)) (0 : Int64)).bind (fun o_4 => some (o_4.1, o_4.2.1, o_4.2.2.1, o_4.2.2.2.1, o_4.2.2.2.2.1, o_4.2.2.2.2.2)) else some ((-1 : Int32), tn, tk, tb, te, tw)))
set_option maxHeartbeats 4000000 in
set_option maxRecDepth 100000 in
theorem c_T_cutText (l : Launch) (dC : Nat → ClassId) (dI : Nat → Nat → Nat) (aT aK aG aE aW aL aB : Nat) (cK cG cE cW cB : ClassId) (sz : Nat) (tn : Int32) (ts : Int32) (tk : Nat → Int32) (tb : Nat → Int32) (te : Nat → Int32) (tw : Nat → Int64) (ln : Int32) (lb : Nat → Int32) (p1 : Int32) (o : Int32 × Int32 × (Nat → Int32) × (Nat → Int32) × (Nat → Int32) × (Nat → Int64)) (hf : f_T_cutText tn tk tb te tw ln lb p1 = some o) : Met l y_T_cutText (w_T_cutText) ({ frames := 3, cells := 0, slots := 0, locals := 69 }) (va_Pc [.ref aT, .ref aL, .int p1] (fun U => U.heap.size = sz ∧ va_P (dC, dI) vwCl [(aT, .inr (2, [.ref aK, .ref aG, .ref aE, .ref aW, .int tn, .int ts])), (aK, .inl (cK, 1024, .inl tk)), (aG, .inl (cG, 1024, .inl tb)), (aE, .inl (cE, 1024, .inl te)), (aW, .inl (cW, 1024, .inr (.inl tw))), (aL, .inr (1, [.ref aB, .int ln])), (aB, .inl (cB, 1024, .inl lb))] U.heap ∧ va_K (dC, dI) vwCl [(cK, .byte), (cG, .int), (cE, .int), (cW, .long), (cB, .byte)] U ∧ va_D (fun _ => True) [(aT, .inr (2, [.ref aK, .ref aG, .ref aE, .ref aW, .int tn, .int ts])), (aK, .inl (cK, 1024, .inl tk)), (aG, .inl (cG, 1024, .inl tb)), (aE, .inl (cE, 1024, .inl te)), (aW, .inl (cW, 1024, .inr (.inl tw))), (aL, .inr (1, [.ref aB, .int ln])), (aB, .inl (cB, 1024, .inl lb))] ∧ NW U)) (va_Qi (fun (r : Int32) (_ : Unit) => r = o.1) (fun _ t => va_P (dC, dI) vwCl [(aT, .inr (2, [.ref aK, .ref aG, .ref aE, .ref aW, .int o.2.1, .int ts])), (aK, .inl (cK, 1024, .inl o.2.2.1)), (aG, .inl (cG, 1024, .inl o.2.2.2.1)), (aE, .inl (cE, 1024, .inl o.2.2.2.2.1)), (aW, .inl (cW, 1024, .inr (.inl o.2.2.2.2.2))), (aL, .inr (1, [.ref aB, .int ln])), (aB, .inl (cB, 1024, .inl lb))] t.heap ∧ va_K (dC, dI) vwCl [(cK, .byte), (cG, .int), (cE, .int), (cW, .long), (cB, .byte)] t ∧ va_D (va_A [(aT, .inr (2, [.ref aK, .ref aG, .ref aE, .ref aW, .int tn, .int ts])), (aK, .inl (cK, 1024, .inl tk)), (aG, .inl (cG, 1024, .inl tb)), (aE, .inl (cE, 1024, .inl te)), (aW, .inl (cW, 1024, .inr (.inl tw))), (aL, .inr (1, [.ref aB, .int ln])), (aB, .inl (cB, 1024, .inl lb))] sz) [(aT, .inr (2, [.ref aK, .ref aG, .ref aE, .ref aW, .int o.2.1, .int ts])), (aK, .inl (cK, 1024, .inl o.2.2.1)), (aG, .inl (cG, 1024, .inl o.2.2.2.1)), (aE, .inl (cE, 1024, .inl o.2.2.2.2.1)), (aW, .inl (cW, 1024, .inr (.inl o.2.2.2.2.2))), (aL, .inr (1, [.ref aB, .int ln])), (aB, .inl (cB, 1024, .inl lb))]) (va_A [(aT, .inr (2, [.ref aK, .ref aG, .ref aE, .ref aW, .int tn, .int ts])), (aK, .inl (cK, 1024, .inl tk)), (aG, .inl (cG, 1024, .inl tb)), (aE, .inl (cE, 1024, .inl te)), (aW, .inl (cW, 1024, .inr (.inl tw))), (aL, .inr (1, [.ref aB, .int ln])), (aB, .inl (cB, 1024, .inl lb))] sz)) 0 0 (va_A [(aT, .inr (2, [.ref aK, .ref aG, .ref aE, .ref aW, .int tn, .int ts])), (aK, .inl (cK, 1024, .inl tk)), (aG, .inl (cG, 1024, .inl tb)), (aE, .inl (cE, 1024, .inl te)), (aW, .inl (cW, 1024, .inr (.inl tw))), (aL, .inr (1, [.ref aB, .int ln])), (aB, .inl (cB, 1024, .inl lb))] sz) := by
  refine Met.ofW (cc := b_T_cutText) (maxL := 4) (ret := (some .int)) (by decide) rfl ?_
  intro p e s m args below meth c s₁ B hml hv
  obtain ⟨rfl, hsz, hP, hK, hD0, hN⟩ := hv
  have hx := B.exec
  have hb := B.bytes
  have hr := B.returns
  have hts : ∀ w ∈ WB, w.before _ s = true := fun w h => atoms_spec (ws := w_T_cutText) B.pre w (List.mem_cons_of_mem _ h)
  have hown : s.vm.findClass R_T = some m.cls := findClass_of_methodNamed B.named
  have hlocks := B.notSynchronized
  subst hsz
  have hD := hD0.self (sz := s.heap.size)
  generalize hAe : va_A [(aT, .inr (2, [.ref aK, .ref aG, .ref aE, .ref aW, .int tn, .int ts])), (aK, .inl (cK, 1024, .inl tk)), (aG, .inl (cG, 1024, .inl tb)), (aE, .inl (cE, 1024, .inl te)), (aW, .inl (cW, 1024, .inr (.inl tw))), (aL, .inr (1, [.ref aB, .int ln])), (aB, .inl (cB, 1024, .inl lb))] s.heap.size = A at hD ⊢
  have hA : ∀ q : Nat, s.heap.size ≤ q → A q := fun q h => by rw [← hAe]; exact Or.inr h
  have hS : va_S A s.heap s.heap [] := va_S.rf
  have hP : va_P (dC, dI) vwCl [(aT, .inr (2, [.ref aK, .ref aG, .ref aE, .ref aW, .int tn, .int ts])), (aK, .inl (cK, 1024, .inl tk)), (aG, .inl (cG, 1024, .inl tb)), (aE, .inl (cE, 1024, .inl te)), (aW, .inl (cW, 1024, .inr (.inl tw))), (aL, .inr (1, [.ref aB, .int ln])), (aB, .inl (cB, 1024, .inl lb))] s.heap := hP
  have hl := lv_entry [.ref aT, .ref aL, .int p1] (n := 4) (Nat.le_of_ble_eq_true rfl)
  rw [lg_entry_eq]
  generalize (lg_sl [.ref aT, .ref aL, .int p1] ++ List.replicate (4 - (lg_sl [.ref aT, .ref aL, .int p1]).length) Slot.unset).toArray = ls at hl ⊢
  have hl : lv_has ls 4 [(0, .ref aT), (1, .ref aL), (2, .int p1)] := hl
  rw [f_T_cutText] at hf
  refine lv_aload_n hx hb d_T_cutText_0 rfl (lv_at hl 1 rfl) ?_
  refine lv_iload_n hx hb d_T_cutText_1 rfl (lv_at hl 2 rfl) ?_
  refine lv_iconst (v := (1 : Int32)) hx hb d_T_cutText_2 (by decide) ?_
  refine lv_iadd hx hb d_T_cutText_3 ?_
  refine lv_bipush (v := (34 : Int32)) hx hb d_T_cutText_4 (by decide) ?_
  obtain ⟨o_1, hM_1, hf⟩ := bd_some hf
  refine cr_i (va_runS (As := [.ref aL, .int (p1 + (1 : Int32)), .int (34 : Int32)]) (rest := []) ⟨hx, hb, hml, hown, hts⟩ (c_S_endOfCharacters l dC dI aL aB cB s.heap.size ln lb (p1 + (1 : Int32)) (34 : Int32) o_1 hM_1) (va_cwS 3 hts (gwS wb_68 wb_70 wb_10 wb_69) rfl rfl rfl (by decide +kernel) ⟨Nat.le_of_ble_eq_true rfl, Nat.le_of_ble_eq_true rfl⟩) (pr_S (hP.sub [5, 6] rfl) (hD.sub [5, 6] (by decide) rfl) hK hN [4] rfl) rfl rfl hl.1 rfl (lv_room (Nat.le_of_ble_eq_true rfl)) d_T_cutText_6 ⟨Nat.zero_le _, Nat.zero_le _⟩) hP hD hS hA (in_of [5, 6] rfl) (fun r_1 H locs hw hP hS => ?_)
  subst r_1
  refine lv_istore_n (lv' := [(3, .int o_1), (0, .ref aT), (1, .ref aL), (2, .int p1)]) hx hb d_T_cutText_9 rfl hl (by decide) rfl (fun ls hl => ?_)
  refine lv_aload_n hx hb d_T_cutText_10 rfl (lv_at hl 2 rfl) ?_
  refine lv_iload_n hx hb d_T_cutText_11 rfl (lv_at hl 0 rfl) ?_
  obtain ⟨o_2, hM_2, hf⟩ := bd_some hf
  refine cr_i (va_runV (As := [.int o_1]) (rest := []) ⟨hx, hb, hml, hown, hts⟩ (c_L_at l dC dI aL aB cB H.size ln lb o_1 o_2 hM_2) (cwV 1 hts (gwV wb_56 wb_4 wb_5 wb_6 wb_3) rfl rfl rfl (by decide +kernel) ⟨Nat.le_of_ble_eq_true rfl, Nat.le_of_ble_eq_true rfl⟩) (pr_V (hP.sub [5, 6] rfl) (hD.sub [5, 6] (by decide) rfl) hK hN [4] rfl (ci := 1) rfl rfl rfl) rfl rfl hl.1 rfl (lv_room (Nat.le_of_ble_eq_true rfl)) d_T_cutText_12 ⟨Nat.zero_le _, Nat.zero_le _⟩) hP hD hS hA (in_of [5, 6] rfl) (fun r_2 H locs hw hP hS => ?_)
  subst r_2
  refine lv_bipush (v := (34 : Int32)) hx hb d_T_cutText_15 (by decide) ?_
  refine lv_icmp_eq (tgt := 24) hx hb d_T_cutText_17 (by decide) (fun c_3 => ?_) (fun c_3 => ?_)
  · rw [if_pos c_3] at hf
    refine lv_aload_n hx hb d_T_cutText_24 rfl (lv_at hl 1 rfl) ?_
    refine lv_iconst (v := (3 : Int32)) hx hb d_T_cutText_25 (by decide) ?_
    refine lv_iload_n hx hb d_T_cutText_26 rfl (lv_at hl 3 rfl) ?_
    refine lv_iload_n hx hb d_T_cutText_27 rfl (lv_at hl 0 rfl) ?_
    refine lv_iconst (v := (1 : Int32)) hx hb d_T_cutText_28 (by decide) ?_
    refine lv_iadd hx hb d_T_cutText_29 ?_
    refine lv_lconst (v := (0 : Int64)) hx hb d_T_cutText_30 (by decide) ?_
    obtain ⟨o_4, hM_4, hf⟩ := bd_some hf
    refine cl_i (wr := [(aL, .inr (1, [.ref aB, .int ln])), (aB, .inl (cB, 1024, .inl lb))]) (va_runV (As := [.int (3 : Int32), .int p1, .int (o_1 + (1 : Int32)), .long (0 : Int64)]) (rest := []) ⟨hx, hb, hml, hown, hts⟩ (c_T_keep l dC dI aT aK aG aE aW cK cG cE cW H.size tn ts tk tb te tw (3 : Int32) p1 (o_1 + (1 : Int32)) (0 : Int64) o_4 hM_4) (cwV 4 hts (gwV wb_49 wb_51 wb_52 wb_32 wb_50) rfl rfl rfl (by decide +kernel) ⟨Nat.le_of_ble_eq_true rfl, Nat.le_of_ble_eq_true rfl⟩) (pr_V (hP.sub [0, 1, 2, 3, 4] rfl) (hD.sub [0, 1, 2, 3, 4] (by decide) rfl) hK hN [0, 1, 2, 3] rfl (ci := 2) rfl rfl rfl) rfl rfl hl.1 rfl (lv_room (Nat.le_of_ble_eq_true rfl)) d_T_cutText_31 ⟨Nat.zero_le _, Nat.zero_le _⟩) hP hD hS hA [0, 1, 2, 3, 4] [5, 6] rfl rfl (by decide) (by decide) (fun r_4 H locs hw hP hD hS => ?_)
    subst r_4
    have hP : va_P (dC, dI) vwCl [(aL, .inr (1, [.ref aB, .int ln])), (aB, .inl (cB, 1024, .inl lb)), (aT, .inr (2, [.ref aK, .ref aG, .ref aE, .ref aW, .int o_4.2.1, .int ts])), (aK, .inl (cK, 1024, .inl o_4.2.2.1)), (aG, .inl (cG, 1024, .inl o_4.2.2.2.1)), (aE, .inl (cE, 1024, .inl o_4.2.2.2.2.1)), (aW, .inl (cW, 1024, .inr (.inl o_4.2.2.2.2.2)))] H := hP
    have hD : va_D A [(aL, .inr (1, [.ref aB, .int ln])), (aB, .inl (cB, 1024, .inl lb)), (aT, .inr (2, [.ref aK, .ref aG, .ref aE, .ref aW, .int o_4.2.1, .int ts])), (aK, .inl (cK, 1024, .inl o_4.2.2.1)), (aG, .inl (cG, 1024, .inl o_4.2.2.2.1)), (aE, .inl (cE, 1024, .inl o_4.2.2.2.2.1)), (aW, .inl (cW, 1024, .inr (.inl o_4.2.2.2.2.2)))] := hD
    have ho := Option.some.inj hf
    subst o
    have hP9 := hP.sub (ws' := [(aT, .inr (2, [.ref aK, .ref aG, .ref aE, .ref aW, .int o_4.2.1, .int ts])), (aK, .inl (cK, 1024, .inl o_4.2.2.1)), (aG, .inl (cG, 1024, .inl o_4.2.2.2.1)), (aE, .inl (cE, 1024, .inl o_4.2.2.2.2.1)), (aW, .inl (cW, 1024, .inr (.inl o_4.2.2.2.2.2))), (aL, .inr (1, [.ref aB, .int ln])), (aB, .inl (cB, 1024, .inl lb))]) [2, 3, 4, 5, 6, 0, 1] rfl
    have hD9 := hD.sub (ws' := [(aT, .inr (2, [.ref aK, .ref aG, .ref aE, .ref aW, .int o_4.2.1, .int ts])), (aK, .inl (cK, 1024, .inl o_4.2.2.1)), (aG, .inl (cG, 1024, .inl o_4.2.2.2.1)), (aE, .inl (cE, 1024, .inl o_4.2.2.2.2.1)), (aW, .inl (cW, 1024, .inr (.inl o_4.2.2.2.2.2))), (aL, .inr (1, [.ref aB, .int ln])), (aB, .inl (cB, 1024, .inl lb))]) [2, 3, 4, 5, 6, 0, 1] (by decide) rfl
    exact W.iret (v := o_4.1) hx hb hr (fun t ht hW => ⟨⟨o_4.1, (), rfl, rfl, by rw [ht]; exact hP9, va_K.moved hW.alike hK, hD9⟩, hS.F ht⟩) hS.2.2 d_T_cutText_34
  · rw [if_neg c_3] at hf
    refine lv_iconst (v := (-1 : Int32)) hx hb d_T_cutText_20 (by decide) ?_
    refine lv_goto (tgt := 34) hx hb d_T_cutText_21 (by decide) ?_
    have ho := Option.some.inj hf
    subst o
    have hP9 := hP.sub (ws' := [(aT, .inr (2, [.ref aK, .ref aG, .ref aE, .ref aW, .int tn, .int ts])), (aK, .inl (cK, 1024, .inl tk)), (aG, .inl (cG, 1024, .inl tb)), (aE, .inl (cE, 1024, .inl te)), (aW, .inl (cW, 1024, .inr (.inl tw))), (aL, .inr (1, [.ref aB, .int ln])), (aB, .inl (cB, 1024, .inl lb))]) [0, 1, 2, 3, 4, 5, 6] rfl
    have hD9 := hD.sub (ws' := [(aT, .inr (2, [.ref aK, .ref aG, .ref aE, .ref aW, .int tn, .int ts])), (aK, .inl (cK, 1024, .inl tk)), (aG, .inl (cG, 1024, .inl tb)), (aE, .inl (cE, 1024, .inl te)), (aW, .inl (cW, 1024, .inr (.inl tw))), (aL, .inr (1, [.ref aB, .int ln])), (aB, .inl (cB, 1024, .inl lb))]) [0, 1, 2, 3, 4, 5, 6] (by decide) rfl
    exact W.iret (v := (-1 : Int32)) hx hb hr (fun t ht hW => ⟨⟨(-1 : Int32), (), rfl, rfl, by rw [ht]; exact hP9, va_K.moved hW.alike hK, hD9⟩, hS.F ht⟩) hS.2.2 d_T_cutText_34

def f_T_cutSign (tn : Int32) (tk : Nat → Int32) (tb : Nat → Int32) (te : Nat → Int32) (tw : Nat → Int64) (ln : Int32) (lb : Nat → Int32) (p1 : Int32) : Option (Int32 × Int32 × (Nat → Int32) × (Nat → Int32) × (Nat → Int32) × (Nat → Int64)) := (f_S_widthOfSign ln lb p1).bind (fun o_1 => if o_1 = (0 : Int32) then some ((-1 : Int32), tn, tk, tb, te, tw) else (f_L_at ln lb p1).bind (fun o_3 => (f_T_keep tn tk tb te tw (4 : Int32) p1 (p1 + o_1) o_3.toInt64).bind (fun o_4 => some (o_4.1, o_4.2.1, o_4.2.2.1, o_4.2.2.2.1, o_4.2.2.2.2.1, o_4.2.2.2.2.2))))
set_option maxHeartbeats 4000000 in
set_option maxRecDepth 100000 in
theorem c_T_cutSign (l : Launch) (dC : Nat → ClassId) (dI : Nat → Nat → Nat) (aT aK aG aE aW aL aB : Nat) (cK cG cE cW cB : ClassId) (sz : Nat) (tn : Int32) (ts : Int32) (tk : Nat → Int32) (tb : Nat → Int32) (te : Nat → Int32) (tw : Nat → Int64) (ln : Int32) (lb : Nat → Int32) (p1 : Int32) (o : Int32 × Int32 × (Nat → Int32) × (Nat → Int32) × (Nat → Int32) × (Nat → Int64)) (hf : f_T_cutSign tn tk tb te tw ln lb p1 = some o) : Met l y_T_cutSign (w_T_cutSign) ({ frames := 2, cells := 0, slots := 0, locals := 43 }) (va_Pc [.ref aT, .ref aL, .int p1] (fun U => U.heap.size = sz ∧ va_P (dC, dI) vwCl [(aT, .inr (2, [.ref aK, .ref aG, .ref aE, .ref aW, .int tn, .int ts])), (aK, .inl (cK, 1024, .inl tk)), (aG, .inl (cG, 1024, .inl tb)), (aE, .inl (cE, 1024, .inl te)), (aW, .inl (cW, 1024, .inr (.inl tw))), (aL, .inr (1, [.ref aB, .int ln])), (aB, .inl (cB, 1024, .inl lb))] U.heap ∧ va_K (dC, dI) vwCl [(cK, .byte), (cG, .int), (cE, .int), (cW, .long), (cB, .byte)] U ∧ va_D (fun _ => True) [(aT, .inr (2, [.ref aK, .ref aG, .ref aE, .ref aW, .int tn, .int ts])), (aK, .inl (cK, 1024, .inl tk)), (aG, .inl (cG, 1024, .inl tb)), (aE, .inl (cE, 1024, .inl te)), (aW, .inl (cW, 1024, .inr (.inl tw))), (aL, .inr (1, [.ref aB, .int ln])), (aB, .inl (cB, 1024, .inl lb))] ∧ NW U)) (va_Qi (fun (r : Int32) (_ : Unit) => r = o.1) (fun _ t => va_P (dC, dI) vwCl [(aT, .inr (2, [.ref aK, .ref aG, .ref aE, .ref aW, .int o.2.1, .int ts])), (aK, .inl (cK, 1024, .inl o.2.2.1)), (aG, .inl (cG, 1024, .inl o.2.2.2.1)), (aE, .inl (cE, 1024, .inl o.2.2.2.2.1)), (aW, .inl (cW, 1024, .inr (.inl o.2.2.2.2.2))), (aL, .inr (1, [.ref aB, .int ln])), (aB, .inl (cB, 1024, .inl lb))] t.heap ∧ va_K (dC, dI) vwCl [(cK, .byte), (cG, .int), (cE, .int), (cW, .long), (cB, .byte)] t ∧ va_D (va_A [(aT, .inr (2, [.ref aK, .ref aG, .ref aE, .ref aW, .int tn, .int ts])), (aK, .inl (cK, 1024, .inl tk)), (aG, .inl (cG, 1024, .inl tb)), (aE, .inl (cE, 1024, .inl te)), (aW, .inl (cW, 1024, .inr (.inl tw))), (aL, .inr (1, [.ref aB, .int ln])), (aB, .inl (cB, 1024, .inl lb))] sz) [(aT, .inr (2, [.ref aK, .ref aG, .ref aE, .ref aW, .int o.2.1, .int ts])), (aK, .inl (cK, 1024, .inl o.2.2.1)), (aG, .inl (cG, 1024, .inl o.2.2.2.1)), (aE, .inl (cE, 1024, .inl o.2.2.2.2.1)), (aW, .inl (cW, 1024, .inr (.inl o.2.2.2.2.2))), (aL, .inr (1, [.ref aB, .int ln])), (aB, .inl (cB, 1024, .inl lb))]) (va_A [(aT, .inr (2, [.ref aK, .ref aG, .ref aE, .ref aW, .int tn, .int ts])), (aK, .inl (cK, 1024, .inl tk)), (aG, .inl (cG, 1024, .inl tb)), (aE, .inl (cE, 1024, .inl te)), (aW, .inl (cW, 1024, .inr (.inl tw))), (aL, .inr (1, [.ref aB, .int ln])), (aB, .inl (cB, 1024, .inl lb))] sz)) 0 0 (va_A [(aT, .inr (2, [.ref aK, .ref aG, .ref aE, .ref aW, .int tn, .int ts])), (aK, .inl (cK, 1024, .inl tk)), (aG, .inl (cG, 1024, .inl tb)), (aE, .inl (cE, 1024, .inl te)), (aW, .inl (cW, 1024, .inr (.inl tw))), (aL, .inr (1, [.ref aB, .int ln])), (aB, .inl (cB, 1024, .inl lb))] sz) := by
  refine Met.ofW (cc := b_T_cutSign) (maxL := 4) (ret := (some .int)) (by decide) rfl ?_
  intro p e s m args below meth c s₁ B hml hv
  obtain ⟨rfl, hsz, hP, hK, hD0, hN⟩ := hv
  have hx := B.exec
  have hb := B.bytes
  have hr := B.returns
  have hts : ∀ w ∈ WB, w.before _ s = true := fun w h => atoms_spec (ws := w_T_cutSign) B.pre w (List.mem_cons_of_mem _ h)
  have hown : s.vm.findClass R_T = some m.cls := findClass_of_methodNamed B.named
  have hlocks := B.notSynchronized
  subst hsz
  have hD := hD0.self (sz := s.heap.size)
  generalize hAe : va_A [(aT, .inr (2, [.ref aK, .ref aG, .ref aE, .ref aW, .int tn, .int ts])), (aK, .inl (cK, 1024, .inl tk)), (aG, .inl (cG, 1024, .inl tb)), (aE, .inl (cE, 1024, .inl te)), (aW, .inl (cW, 1024, .inr (.inl tw))), (aL, .inr (1, [.ref aB, .int ln])), (aB, .inl (cB, 1024, .inl lb))] s.heap.size = A at hD ⊢
  have hA : ∀ q : Nat, s.heap.size ≤ q → A q := fun q h => by rw [← hAe]; exact Or.inr h
  have hS : va_S A s.heap s.heap [] := va_S.rf
  have hP : va_P (dC, dI) vwCl [(aT, .inr (2, [.ref aK, .ref aG, .ref aE, .ref aW, .int tn, .int ts])), (aK, .inl (cK, 1024, .inl tk)), (aG, .inl (cG, 1024, .inl tb)), (aE, .inl (cE, 1024, .inl te)), (aW, .inl (cW, 1024, .inr (.inl tw))), (aL, .inr (1, [.ref aB, .int ln])), (aB, .inl (cB, 1024, .inl lb))] s.heap := hP
  have hl := lv_entry [.ref aT, .ref aL, .int p1] (n := 4) (Nat.le_of_ble_eq_true rfl)
  rw [lg_entry_eq]
  generalize (lg_sl [.ref aT, .ref aL, .int p1] ++ List.replicate (4 - (lg_sl [.ref aT, .ref aL, .int p1]).length) Slot.unset).toArray = ls at hl ⊢
  have hl : lv_has ls 4 [(0, .ref aT), (1, .ref aL), (2, .int p1)] := hl
  rw [f_T_cutSign] at hf
  refine lv_aload_n hx hb d_T_cutSign_0 rfl (lv_at hl 1 rfl) ?_
  refine lv_iload_n hx hb d_T_cutSign_1 rfl (lv_at hl 2 rfl) ?_
  obtain ⟨o_1, hM_1, hf⟩ := bd_some hf
  refine cr_i (va_runS (As := [.ref aL, .int p1]) (rest := []) ⟨hx, hb, hml, hown, hts⟩ (c_S_widthOfSign l dC dI aL aB cB s.heap.size ln lb p1 o_1 hM_1) (va_cwS 2 hts (gwS wb_71 wb_73 wb_10 wb_72) rfl rfl rfl (by decide +kernel) ⟨Nat.le_of_ble_eq_true rfl, Nat.le_of_ble_eq_true rfl⟩) (pr_S (hP.sub [5, 6] rfl) (hD.sub [5, 6] (by decide) rfl) hK hN [4] rfl) rfl rfl hl.1 rfl (lv_room (Nat.le_of_ble_eq_true rfl)) d_T_cutSign_2 ⟨Nat.zero_le _, Nat.zero_le _⟩) hP hD hS hA (in_of [5, 6] rfl) (fun r_1 H locs hw hP hS => ?_)
  subst r_1
  refine lv_istore_n (lv' := [(3, .int o_1), (0, .ref aT), (1, .ref aL), (2, .int p1)]) hx hb d_T_cutSign_5 rfl hl (by decide) rfl (fun ls hl => ?_)
  refine lv_iload_n hx hb d_T_cutSign_6 rfl (lv_at hl 0 rfl) ?_
  refine lv_if_ne (tgt := 14) hx hb d_T_cutSign_7 (by decide) (fun c_2 => ?_) (fun c_2 => ?_)
  · rw [if_neg c_2] at hf
    refine lv_aload_n hx hb d_T_cutSign_14 rfl (lv_at hl 1 rfl) ?_
    refine lv_iconst (v := (4 : Int32)) hx hb d_T_cutSign_15 (by decide) ?_
    refine lv_iload_n hx hb d_T_cutSign_16 rfl (lv_at hl 3 rfl) ?_
    refine lv_iload_n hx hb d_T_cutSign_17 rfl (lv_at hl 3 rfl) ?_
    refine lv_iload_n hx hb d_T_cutSign_18 rfl (lv_at hl 0 rfl) ?_
    refine lv_iadd hx hb d_T_cutSign_19 ?_
    refine lv_aload_n hx hb d_T_cutSign_20 rfl (lv_at hl 2 rfl) ?_
    refine lv_iload_n hx hb d_T_cutSign_21 rfl (lv_at hl 3 rfl) ?_
    obtain ⟨o_3, hM_3, hf⟩ := bd_some hf
    refine cr_i (va_runV (As := [.int p1]) (rest := [.int (p1 + o_1), .int p1, .int (4 : Int32), .ref aT]) ⟨hx, hb, hml, hown, hts⟩ (c_L_at l dC dI aL aB cB H.size ln lb p1 o_3 hM_3) (cwV 1 hts (gwV wb_56 wb_4 wb_5 wb_6 wb_3) rfl rfl rfl (by decide +kernel) ⟨Nat.le_of_ble_eq_true rfl, Nat.le_of_ble_eq_true rfl⟩) (pr_V (hP.sub [5, 6] rfl) (hD.sub [5, 6] (by decide) rfl) hK hN [4] rfl (ci := 1) rfl rfl rfl) rfl rfl hl.1 rfl (lv_room (Nat.le_of_ble_eq_true rfl)) d_T_cutSign_22 ⟨Nat.zero_le _, Nat.zero_le _⟩) hP hD hS hA (in_of [5, 6] rfl) (fun r_3 H locs hw hP hS => ?_)
    subst r_3
    refine lv_i2l (v := o_3.toInt64) hx hb d_T_cutSign_25 rfl ?_
    obtain ⟨o_4, hM_4, hf⟩ := bd_some hf
    refine cl_i (wr := [(aL, .inr (1, [.ref aB, .int ln])), (aB, .inl (cB, 1024, .inl lb))]) (va_runV (As := [.int (4 : Int32), .int p1, .int (p1 + o_1), .long o_3.toInt64]) (rest := []) ⟨hx, hb, hml, hown, hts⟩ (c_T_keep l dC dI aT aK aG aE aW cK cG cE cW H.size tn ts tk tb te tw (4 : Int32) p1 (p1 + o_1) o_3.toInt64 o_4 hM_4) (cwV 4 hts (gwV wb_49 wb_51 wb_52 wb_32 wb_50) rfl rfl rfl (by decide +kernel) ⟨Nat.le_of_ble_eq_true rfl, Nat.le_of_ble_eq_true rfl⟩) (pr_V (hP.sub [0, 1, 2, 3, 4] rfl) (hD.sub [0, 1, 2, 3, 4] (by decide) rfl) hK hN [0, 1, 2, 3] rfl (ci := 2) rfl rfl rfl) rfl rfl hl.1 rfl (lv_room (Nat.le_of_ble_eq_true rfl)) d_T_cutSign_26 ⟨Nat.zero_le _, Nat.zero_le _⟩) hP hD hS hA [0, 1, 2, 3, 4] [5, 6] rfl rfl (by decide) (by decide) (fun r_4 H locs hw hP hD hS => ?_)
    subst r_4
    have hP : va_P (dC, dI) vwCl [(aL, .inr (1, [.ref aB, .int ln])), (aB, .inl (cB, 1024, .inl lb)), (aT, .inr (2, [.ref aK, .ref aG, .ref aE, .ref aW, .int o_4.2.1, .int ts])), (aK, .inl (cK, 1024, .inl o_4.2.2.1)), (aG, .inl (cG, 1024, .inl o_4.2.2.2.1)), (aE, .inl (cE, 1024, .inl o_4.2.2.2.2.1)), (aW, .inl (cW, 1024, .inr (.inl o_4.2.2.2.2.2)))] H := hP
    have hD : va_D A [(aL, .inr (1, [.ref aB, .int ln])), (aB, .inl (cB, 1024, .inl lb)), (aT, .inr (2, [.ref aK, .ref aG, .ref aE, .ref aW, .int o_4.2.1, .int ts])), (aK, .inl (cK, 1024, .inl o_4.2.2.1)), (aG, .inl (cG, 1024, .inl o_4.2.2.2.1)), (aE, .inl (cE, 1024, .inl o_4.2.2.2.2.1)), (aW, .inl (cW, 1024, .inr (.inl o_4.2.2.2.2.2)))] := hD
    have ho := Option.some.inj hf
    subst o
    have hP9 := hP.sub (ws' := [(aT, .inr (2, [.ref aK, .ref aG, .ref aE, .ref aW, .int o_4.2.1, .int ts])), (aK, .inl (cK, 1024, .inl o_4.2.2.1)), (aG, .inl (cG, 1024, .inl o_4.2.2.2.1)), (aE, .inl (cE, 1024, .inl o_4.2.2.2.2.1)), (aW, .inl (cW, 1024, .inr (.inl o_4.2.2.2.2.2))), (aL, .inr (1, [.ref aB, .int ln])), (aB, .inl (cB, 1024, .inl lb))]) [2, 3, 4, 5, 6, 0, 1] rfl
    have hD9 := hD.sub (ws' := [(aT, .inr (2, [.ref aK, .ref aG, .ref aE, .ref aW, .int o_4.2.1, .int ts])), (aK, .inl (cK, 1024, .inl o_4.2.2.1)), (aG, .inl (cG, 1024, .inl o_4.2.2.2.1)), (aE, .inl (cE, 1024, .inl o_4.2.2.2.2.1)), (aW, .inl (cW, 1024, .inr (.inl o_4.2.2.2.2.2))), (aL, .inr (1, [.ref aB, .int ln])), (aB, .inl (cB, 1024, .inl lb))]) [2, 3, 4, 5, 6, 0, 1] (by decide) rfl
    exact W.iret (v := o_4.1) hx hb hr (fun t ht hW => ⟨⟨o_4.1, (), rfl, rfl, by rw [ht]; exact hP9, va_K.moved hW.alike hK, hD9⟩, hS.F ht⟩) hS.2.2 d_T_cutSign_29
  · rw [if_pos c_2] at hf
    refine lv_iconst (v := (-1 : Int32)) hx hb d_T_cutSign_10 (by decide) ?_
    refine lv_goto (tgt := 29) hx hb d_T_cutSign_11 (by decide) ?_
    have ho := Option.some.inj hf
    subst o
    have hP9 := hP.sub (ws' := [(aT, .inr (2, [.ref aK, .ref aG, .ref aE, .ref aW, .int tn, .int ts])), (aK, .inl (cK, 1024, .inl tk)), (aG, .inl (cG, 1024, .inl tb)), (aE, .inl (cE, 1024, .inl te)), (aW, .inl (cW, 1024, .inr (.inl tw))), (aL, .inr (1, [.ref aB, .int ln])), (aB, .inl (cB, 1024, .inl lb))]) [0, 1, 2, 3, 4, 5, 6] rfl
    have hD9 := hD.sub (ws' := [(aT, .inr (2, [.ref aK, .ref aG, .ref aE, .ref aW, .int tn, .int ts])), (aK, .inl (cK, 1024, .inl tk)), (aG, .inl (cG, 1024, .inl tb)), (aE, .inl (cE, 1024, .inl te)), (aW, .inl (cW, 1024, .inr (.inl tw))), (aL, .inr (1, [.ref aB, .int ln])), (aB, .inl (cB, 1024, .inl lb))]) [0, 1, 2, 3, 4, 5, 6] (by decide) rfl
    exact W.iret (v := (-1 : Int32)) hx hb hr (fun t ht hW => ⟨⟨(-1 : Int32), (), rfl, rfl, by rw [ht]; exact hP9, va_K.moved hW.alike hK, hD9⟩, hS.F ht⟩) hS.2.2 d_T_cutSign_29

def f_T_cutOne (tn : Int32) (tk : Nat → Int32) (tb : Nat → Int32) (te : Nat → Int32) (tw : Nat → Int64) (ln : Int32) (lb : Nat → Int32) (p1 : Int32) : Option (Int32 × Int32 × (Nat → Int32) × (Nat → Int32) × (Nat → Int32) × (Nat → Int64)) := (f_L_at ln lb p1).bind (fun o_1 => (f_S_isDigit o_1).bind (fun o_2 => if o_2 = (0 : Int32) then (f_S_isOfNames o_1).bind (fun o_4 => if o_4 = (0 : Int32) then if o_1 = (39 : Int32) then (f_T_cutCharacter tn tk tb te tw ln lb p1).bind (fun o_10 => some (o_10.1, o_10.2.1, o_10.2.2.1, o_10.2.2.2.1, o_10.2.2.2.2.1, o_10.2.2.2.2.2)) else if o_1 = (34 : Int32) then (f_T_cutText tn tk tb te tw ln lb p1).bind (fun o_9 => some (o_9.1, o_9.2.1, o_9.2.2.1, o_9.2.2.2.1, o_9.2.2.2.2.1, o_9.2.2.2.2.2)) else (f_T_cutSign tn tk tb te tw ln lb p1).bind (fun o_8 => some (o_8.1, o_8.2.1, o_8.2.2.1, o_8.2.2.2.1, o_8.2.2.2.2.1, o_8.2.2.2.2.2)) else (f_T_cutName tn tk tb te tw ln lb p1).bind (fun o_11 => some (o_11.1, o_11.2.1, o_11.2.2.1, o_11.2.2.2.1, o_11.2.2.2.2.1, o_11.2.2.2.2.2))) else (f_T_cutNumber tn tk tb te tw ln lb p1).bind (fun o_12 => some (o_12.1, o_12.2.1, o_12.2.2.1, o_12.2.2.2.1, o_12.2.2.2.2.1, o_12.2.2.2.2.2))))
set_option maxHeartbeats 4000000 in
set_option maxRecDepth 100000 in
theorem c_T_cutOne (l : Launch) (dC : Nat → ClassId) (dI : Nat → Nat → Nat) (aT aK aG aE aW aL aB : Nat) (cK cG cE cW cB : ClassId) (sz : Nat) (tn : Int32) (ts : Int32) (tk : Nat → Int32) (tb : Nat → Int32) (te : Nat → Int32) (tw : Nat → Int64) (ln : Int32) (lb : Nat → Int32) (p1 : Int32) (o : Int32 × Int32 × (Nat → Int32) × (Nat → Int32) × (Nat → Int32) × (Nat → Int64)) (hf : f_T_cutOne tn tk tb te tw ln lb p1 = some o) : Met l y_T_cutOne (w_T_cutOne) ({ frames := 4, cells := 0, slots := 0, locals := 92 }) (va_Pc [.ref aT, .ref aL, .int p1] (fun U => U.heap.size = sz ∧ va_P (dC, dI) vwCl [(aT, .inr (2, [.ref aK, .ref aG, .ref aE, .ref aW, .int tn, .int ts])), (aK, .inl (cK, 1024, .inl tk)), (aG, .inl (cG, 1024, .inl tb)), (aE, .inl (cE, 1024, .inl te)), (aW, .inl (cW, 1024, .inr (.inl tw))), (aL, .inr (1, [.ref aB, .int ln])), (aB, .inl (cB, 1024, .inl lb))] U.heap ∧ va_K (dC, dI) vwCl [(cK, .byte), (cG, .int), (cE, .int), (cW, .long), (cB, .byte)] U ∧ va_D (fun _ => True) [(aT, .inr (2, [.ref aK, .ref aG, .ref aE, .ref aW, .int tn, .int ts])), (aK, .inl (cK, 1024, .inl tk)), (aG, .inl (cG, 1024, .inl tb)), (aE, .inl (cE, 1024, .inl te)), (aW, .inl (cW, 1024, .inr (.inl tw))), (aL, .inr (1, [.ref aB, .int ln])), (aB, .inl (cB, 1024, .inl lb))] ∧ NW U)) (va_Qi (fun (r : Int32) (_ : Unit) => r = o.1) (fun _ t => va_P (dC, dI) vwCl [(aT, .inr (2, [.ref aK, .ref aG, .ref aE, .ref aW, .int o.2.1, .int ts])), (aK, .inl (cK, 1024, .inl o.2.2.1)), (aG, .inl (cG, 1024, .inl o.2.2.2.1)), (aE, .inl (cE, 1024, .inl o.2.2.2.2.1)), (aW, .inl (cW, 1024, .inr (.inl o.2.2.2.2.2))), (aL, .inr (1, [.ref aB, .int ln])), (aB, .inl (cB, 1024, .inl lb))] t.heap ∧ va_K (dC, dI) vwCl [(cK, .byte), (cG, .int), (cE, .int), (cW, .long), (cB, .byte)] t ∧ va_D (va_A [(aT, .inr (2, [.ref aK, .ref aG, .ref aE, .ref aW, .int tn, .int ts])), (aK, .inl (cK, 1024, .inl tk)), (aG, .inl (cG, 1024, .inl tb)), (aE, .inl (cE, 1024, .inl te)), (aW, .inl (cW, 1024, .inr (.inl tw))), (aL, .inr (1, [.ref aB, .int ln])), (aB, .inl (cB, 1024, .inl lb))] sz) [(aT, .inr (2, [.ref aK, .ref aG, .ref aE, .ref aW, .int o.2.1, .int ts])), (aK, .inl (cK, 1024, .inl o.2.2.1)), (aG, .inl (cG, 1024, .inl o.2.2.2.1)), (aE, .inl (cE, 1024, .inl o.2.2.2.2.1)), (aW, .inl (cW, 1024, .inr (.inl o.2.2.2.2.2))), (aL, .inr (1, [.ref aB, .int ln])), (aB, .inl (cB, 1024, .inl lb))]) (va_A [(aT, .inr (2, [.ref aK, .ref aG, .ref aE, .ref aW, .int tn, .int ts])), (aK, .inl (cK, 1024, .inl tk)), (aG, .inl (cG, 1024, .inl tb)), (aE, .inl (cE, 1024, .inl te)), (aW, .inl (cW, 1024, .inr (.inl tw))), (aL, .inr (1, [.ref aB, .int ln])), (aB, .inl (cB, 1024, .inl lb))] sz)) 0 0 (va_A [(aT, .inr (2, [.ref aK, .ref aG, .ref aE, .ref aW, .int tn, .int ts])), (aK, .inl (cK, 1024, .inl tk)), (aG, .inl (cG, 1024, .inl tb)), (aE, .inl (cE, 1024, .inl te)), (aW, .inl (cW, 1024, .inr (.inl tw))), (aL, .inr (1, [.ref aB, .int ln])), (aB, .inl (cB, 1024, .inl lb))] sz) := by
  refine Met.ofW (cc := b_T_cutOne) (maxL := 4) (ret := (some .int)) (by decide) rfl ?_
  intro p e s m args below meth c s₁ B hml hv
  obtain ⟨rfl, hsz, hP, hK, hD0, hN⟩ := hv
  have hx := B.exec
  have hb := B.bytes
  have hr := B.returns
  have hts : ∀ w ∈ WB, w.before _ s = true := fun w h => atoms_spec (ws := w_T_cutOne) B.pre w (List.mem_cons_of_mem _ h)
  have hown : s.vm.findClass R_T = some m.cls := findClass_of_methodNamed B.named
  have hlocks := B.notSynchronized
  subst hsz
  have hD := hD0.self (sz := s.heap.size)
  generalize hAe : va_A [(aT, .inr (2, [.ref aK, .ref aG, .ref aE, .ref aW, .int tn, .int ts])), (aK, .inl (cK, 1024, .inl tk)), (aG, .inl (cG, 1024, .inl tb)), (aE, .inl (cE, 1024, .inl te)), (aW, .inl (cW, 1024, .inr (.inl tw))), (aL, .inr (1, [.ref aB, .int ln])), (aB, .inl (cB, 1024, .inl lb))] s.heap.size = A at hD ⊢
  have hA : ∀ q : Nat, s.heap.size ≤ q → A q := fun q h => by rw [← hAe]; exact Or.inr h
  have hS : va_S A s.heap s.heap [] := va_S.rf
  have hP : va_P (dC, dI) vwCl [(aT, .inr (2, [.ref aK, .ref aG, .ref aE, .ref aW, .int tn, .int ts])), (aK, .inl (cK, 1024, .inl tk)), (aG, .inl (cG, 1024, .inl tb)), (aE, .inl (cE, 1024, .inl te)), (aW, .inl (cW, 1024, .inr (.inl tw))), (aL, .inr (1, [.ref aB, .int ln])), (aB, .inl (cB, 1024, .inl lb))] s.heap := hP
  have hl := lv_entry [.ref aT, .ref aL, .int p1] (n := 4) (Nat.le_of_ble_eq_true rfl)
  rw [lg_entry_eq]
  generalize (lg_sl [.ref aT, .ref aL, .int p1] ++ List.replicate (4 - (lg_sl [.ref aT, .ref aL, .int p1]).length) Slot.unset).toArray = ls at hl ⊢
  have hl : lv_has ls 4 [(0, .ref aT), (1, .ref aL), (2, .int p1)] := hl
  rw [f_T_cutOne] at hf
  refine lv_aload_n hx hb d_T_cutOne_0 rfl (lv_at hl 1 rfl) ?_
  refine lv_iload_n hx hb d_T_cutOne_1 rfl (lv_at hl 2 rfl) ?_
  obtain ⟨o_1, hM_1, hf⟩ := bd_some hf
  refine cr_i (va_runV (As := [.int p1]) (rest := []) ⟨hx, hb, hml, hown, hts⟩ (c_L_at l dC dI aL aB cB s.heap.size ln lb p1 o_1 hM_1) (cwV 1 hts (gwV wb_56 wb_4 wb_5 wb_6 wb_3) rfl rfl rfl (by decide +kernel) ⟨Nat.le_of_ble_eq_true rfl, Nat.le_of_ble_eq_true rfl⟩) (pr_V (hP.sub [5, 6] rfl) (hD.sub [5, 6] (by decide) rfl) hK hN [4] rfl (ci := 1) rfl rfl rfl) rfl rfl hl.1 rfl (lv_room (Nat.le_of_ble_eq_true rfl)) d_T_cutOne_2 ⟨Nat.zero_le _, Nat.zero_le _⟩) hP hD hS hA (in_of [5, 6] rfl) (fun r_1 H locs hw hP hS => ?_)
  subst r_1
  refine lv_istore_n (lv' := [(3, .int o_1), (0, .ref aT), (1, .ref aL), (2, .int p1)]) hx hb d_T_cutOne_5 rfl hl (by decide) rfl (fun ls hl => ?_)
  refine lv_iload_n hx hb d_T_cutOne_6 rfl (lv_at hl 0 rfl) ?_
  obtain ⟨o_2, hM_2, hf⟩ := bd_some hf
  refine cr_i (va_runS (As := [.int o_1]) (rest := []) ⟨hx, hb, hml, hown, hts⟩ (c_S_isDigit l dC dI   H.size  o_1 o_2 hM_2) (va_cwS 1 hts (gwS wb_74 wb_9 wb_10 wb_8) rfl rfl rfl (by decide +kernel) ⟨Nat.le_of_ble_eq_true rfl, Nat.le_of_ble_eq_true rfl⟩) (pr_S (hP.sub [] rfl) (hD.sub [] (by decide) rfl) hK hN [] rfl) rfl rfl hl.1 rfl (lv_room (Nat.le_of_ble_eq_true rfl)) d_T_cutOne_7 ⟨Nat.zero_le _, Nat.zero_le _⟩) hP hD hS hA (in_of [] rfl) (fun r_2 H locs hw hP hS => ?_)
  obtain ⟨hw, hz_2⟩ := hw
  subst r_2
  refine lv_if_eq (tgt := 20) hx hb d_T_cutOne_10 (by decide) (fun c_3 => ?_) (fun c_3 => ?_)
  · rw [if_pos c_3] at hf
    refine lv_iload_n hx hb d_T_cutOne_20 rfl (lv_at hl 0 rfl) ?_
    obtain ⟨o_4, hM_4, hf⟩ := bd_some hf
    refine cr_i (va_runS (As := [.int o_1]) (rest := []) ⟨hx, hb, hml, hown, hts⟩ (c_S_isOfNames l dC dI   H.size  o_1 o_4 hM_4) (va_cwS 1 hts (gwS wb_64 wb_18 wb_10 wb_17) rfl rfl rfl (by decide +kernel) ⟨Nat.le_of_ble_eq_true rfl, Nat.le_of_ble_eq_true rfl⟩) (pr_S (hP.sub [] rfl) (hD.sub [] (by decide) rfl) hK hN [] rfl) rfl rfl hl.1 rfl (lv_room (Nat.le_of_ble_eq_true rfl)) d_T_cutOne_21 ⟨Nat.zero_le _, Nat.zero_le _⟩) hP hD hS hA (in_of [] rfl) (fun r_4 H locs hw hP hS => ?_)
    obtain ⟨hw, hz_4⟩ := hw
    subst r_4
    refine lv_if_eq (tgt := 34) hx hb d_T_cutOne_24 (by decide) (fun c_5 => ?_) (fun c_5 => ?_)
    · rw [if_pos c_5] at hf
      refine lv_iload_n hx hb d_T_cutOne_34 rfl (lv_at hl 0 rfl) ?_
      refine lv_bipush (v := (39 : Int32)) hx hb d_T_cutOne_35 (by decide) ?_
      refine lv_icmp_ne (tgt := 47) hx hb d_T_cutOne_37 (by decide) (fun c_6 => ?_) (fun c_6 => ?_)
      · rw [if_neg c_6] at hf
        refine lv_iload_n hx hb d_T_cutOne_47 rfl (lv_at hl 0 rfl) ?_
        refine lv_bipush (v := (34 : Int32)) hx hb d_T_cutOne_48 (by decide) ?_
        refine lv_icmp_ne (tgt := 62) hx hb d_T_cutOne_50 (by decide) (fun c_7 => ?_) (fun c_7 => ?_)
        · rw [if_neg c_7] at hf
          refine lv_aload_n hx hb d_T_cutOne_62 rfl (lv_at hl 1 rfl) ?_
          refine lv_aload_n hx hb d_T_cutOne_63 rfl (lv_at hl 2 rfl) ?_
          refine lv_iload_n hx hb d_T_cutOne_64 rfl (lv_at hl 3 rfl) ?_
          obtain ⟨o_8, hM_8, hf⟩ := bd_some hf
          refine cl_i (wr := []) (va_runV (As := [.ref aL, .int p1]) (rest := []) ⟨hx, hb, hml, hown, hts⟩ (c_T_cutSign l dC dI aT aK aG aE aW aL aB cK cG cE cW cB H.size tn ts tk tb te tw ln lb p1 o_8 hM_8) (cwV 2 hts (gwV wb_75 wb_77 wb_78 wb_32 wb_76) rfl rfl rfl (by decide +kernel) ⟨Nat.le_of_ble_eq_true rfl, Nat.le_of_ble_eq_true rfl⟩) (pr_V (hP.sub [0, 1, 2, 3, 4, 5, 6] rfl) (hD.sub [0, 1, 2, 3, 4, 5, 6] (by decide) rfl) hK hN [0, 1, 2, 3, 4] rfl (ci := 2) rfl rfl rfl) rfl rfl hl.1 rfl (lv_room (Nat.le_of_ble_eq_true rfl)) d_T_cutOne_65 ⟨Nat.zero_le _, Nat.zero_le _⟩) hP hD hS hA [0, 1, 2, 3, 4, 5, 6] [] rfl rfl (by decide) (by decide) (fun r_8 H locs hw hP hD hS => ?_)
          subst r_8
          have hP : va_P (dC, dI) vwCl [(aT, .inr (2, [.ref aK, .ref aG, .ref aE, .ref aW, .int o_8.2.1, .int ts])), (aK, .inl (cK, 1024, .inl o_8.2.2.1)), (aG, .inl (cG, 1024, .inl o_8.2.2.2.1)), (aE, .inl (cE, 1024, .inl o_8.2.2.2.2.1)), (aW, .inl (cW, 1024, .inr (.inl o_8.2.2.2.2.2))), (aL, .inr (1, [.ref aB, .int ln])), (aB, .inl (cB, 1024, .inl lb))] H := hP
          have hD : va_D A [(aT, .inr (2, [.ref aK, .ref aG, .ref aE, .ref aW, .int o_8.2.1, .int ts])), (aK, .inl (cK, 1024, .inl o_8.2.2.1)), (aG, .inl (cG, 1024, .inl o_8.2.2.2.1)), (aE, .inl (cE, 1024, .inl o_8.2.2.2.2.1)), (aW, .inl (cW, 1024, .inr (.inl o_8.2.2.2.2.2))), (aL, .inr (1, [.ref aB, .int ln])), (aB, .inl (cB, 1024, .inl lb))] := hD
          have ho := Option.some.inj hf
          subst o
          have hP9 := hP.sub (ws' := [(aT, .inr (2, [.ref aK, .ref aG, .ref aE, .ref aW, .int o_8.2.1, .int ts])), (aK, .inl (cK, 1024, .inl o_8.2.2.1)), (aG, .inl (cG, 1024, .inl o_8.2.2.2.1)), (aE, .inl (cE, 1024, .inl o_8.2.2.2.2.1)), (aW, .inl (cW, 1024, .inr (.inl o_8.2.2.2.2.2))), (aL, .inr (1, [.ref aB, .int ln])), (aB, .inl (cB, 1024, .inl lb))]) [0, 1, 2, 3, 4, 5, 6] rfl
          have hD9 := hD.sub (ws' := [(aT, .inr (2, [.ref aK, .ref aG, .ref aE, .ref aW, .int o_8.2.1, .int ts])), (aK, .inl (cK, 1024, .inl o_8.2.2.1)), (aG, .inl (cG, 1024, .inl o_8.2.2.2.1)), (aE, .inl (cE, 1024, .inl o_8.2.2.2.2.1)), (aW, .inl (cW, 1024, .inr (.inl o_8.2.2.2.2.2))), (aL, .inr (1, [.ref aB, .int ln])), (aB, .inl (cB, 1024, .inl lb))]) [0, 1, 2, 3, 4, 5, 6] (by decide) rfl
          exact W.iret (v := o_8.1) hx hb hr (fun t ht hW => ⟨⟨o_8.1, (), rfl, rfl, by rw [ht]; exact hP9, va_K.moved hW.alike hK, hD9⟩, hS.F ht⟩) hS.2.2 d_T_cutOne_68
        · rw [if_pos c_7] at hf
          refine lv_aload_n hx hb d_T_cutOne_53 rfl (lv_at hl 1 rfl) ?_
          refine lv_aload_n hx hb d_T_cutOne_54 rfl (lv_at hl 2 rfl) ?_
          refine lv_iload_n hx hb d_T_cutOne_55 rfl (lv_at hl 3 rfl) ?_
          obtain ⟨o_9, hM_9, hf⟩ := bd_some hf
          refine cl_i (wr := []) (va_runV (As := [.ref aL, .int p1]) (rest := []) ⟨hx, hb, hml, hown, hts⟩ (c_T_cutText l dC dI aT aK aG aE aW aL aB cK cG cE cW cB H.size tn ts tk tb te tw ln lb p1 o_9 hM_9) (cwV 2 hts (gwV wb_79 wb_81 wb_82 wb_32 wb_80) rfl rfl rfl (by decide +kernel) ⟨Nat.le_of_ble_eq_true rfl, Nat.le_of_ble_eq_true rfl⟩) (pr_V (hP.sub [0, 1, 2, 3, 4, 5, 6] rfl) (hD.sub [0, 1, 2, 3, 4, 5, 6] (by decide) rfl) hK hN [0, 1, 2, 3, 4] rfl (ci := 2) rfl rfl rfl) rfl rfl hl.1 rfl (lv_room (Nat.le_of_ble_eq_true rfl)) d_T_cutOne_56 ⟨Nat.zero_le _, Nat.zero_le _⟩) hP hD hS hA [0, 1, 2, 3, 4, 5, 6] [] rfl rfl (by decide) (by decide) (fun r_9 H locs hw hP hD hS => ?_)
          subst r_9
          have hP : va_P (dC, dI) vwCl [(aT, .inr (2, [.ref aK, .ref aG, .ref aE, .ref aW, .int o_9.2.1, .int ts])), (aK, .inl (cK, 1024, .inl o_9.2.2.1)), (aG, .inl (cG, 1024, .inl o_9.2.2.2.1)), (aE, .inl (cE, 1024, .inl o_9.2.2.2.2.1)), (aW, .inl (cW, 1024, .inr (.inl o_9.2.2.2.2.2))), (aL, .inr (1, [.ref aB, .int ln])), (aB, .inl (cB, 1024, .inl lb))] H := hP
          have hD : va_D A [(aT, .inr (2, [.ref aK, .ref aG, .ref aE, .ref aW, .int o_9.2.1, .int ts])), (aK, .inl (cK, 1024, .inl o_9.2.2.1)), (aG, .inl (cG, 1024, .inl o_9.2.2.2.1)), (aE, .inl (cE, 1024, .inl o_9.2.2.2.2.1)), (aW, .inl (cW, 1024, .inr (.inl o_9.2.2.2.2.2))), (aL, .inr (1, [.ref aB, .int ln])), (aB, .inl (cB, 1024, .inl lb))] := hD
          refine lv_goto (tgt := 68) hx hb d_T_cutOne_59 (by decide) ?_
          have ho := Option.some.inj hf
          subst o
          have hP9 := hP.sub (ws' := [(aT, .inr (2, [.ref aK, .ref aG, .ref aE, .ref aW, .int o_9.2.1, .int ts])), (aK, .inl (cK, 1024, .inl o_9.2.2.1)), (aG, .inl (cG, 1024, .inl o_9.2.2.2.1)), (aE, .inl (cE, 1024, .inl o_9.2.2.2.2.1)), (aW, .inl (cW, 1024, .inr (.inl o_9.2.2.2.2.2))), (aL, .inr (1, [.ref aB, .int ln])), (aB, .inl (cB, 1024, .inl lb))]) [0, 1, 2, 3, 4, 5, 6] rfl
          have hD9 := hD.sub (ws' := [(aT, .inr (2, [.ref aK, .ref aG, .ref aE, .ref aW, .int o_9.2.1, .int ts])), (aK, .inl (cK, 1024, .inl o_9.2.2.1)), (aG, .inl (cG, 1024, .inl o_9.2.2.2.1)), (aE, .inl (cE, 1024, .inl o_9.2.2.2.2.1)), (aW, .inl (cW, 1024, .inr (.inl o_9.2.2.2.2.2))), (aL, .inr (1, [.ref aB, .int ln])), (aB, .inl (cB, 1024, .inl lb))]) [0, 1, 2, 3, 4, 5, 6] (by decide) rfl
          exact W.iret (v := o_9.1) hx hb hr (fun t ht hW => ⟨⟨o_9.1, (), rfl, rfl, by rw [ht]; exact hP9, va_K.moved hW.alike hK, hD9⟩, hS.F ht⟩) hS.2.2 d_T_cutOne_68
      · rw [if_pos c_6] at hf
        refine lv_aload_n hx hb d_T_cutOne_40 rfl (lv_at hl 1 rfl) ?_
        refine lv_aload_n hx hb d_T_cutOne_41 rfl (lv_at hl 2 rfl) ?_
        refine lv_iload_n hx hb d_T_cutOne_42 rfl (lv_at hl 3 rfl) ?_
        obtain ⟨o_10, hM_10, hf⟩ := bd_some hf
        refine cl_i (wr := []) (va_runV (As := [.ref aL, .int p1]) (rest := []) ⟨hx, hb, hml, hown, hts⟩ (c_T_cutCharacter l dC dI aT aK aG aE aW aL aB cK cG cE cW cB H.size tn ts tk tb te tw ln lb p1 o_10 hM_10) (cwV 2 hts (gwV wb_83 wb_85 wb_86 wb_32 wb_84) rfl rfl rfl (by decide +kernel) ⟨Nat.le_of_ble_eq_true rfl, Nat.le_of_ble_eq_true rfl⟩) (pr_V (hP.sub [0, 1, 2, 3, 4, 5, 6] rfl) (hD.sub [0, 1, 2, 3, 4, 5, 6] (by decide) rfl) hK hN [0, 1, 2, 3, 4] rfl (ci := 2) rfl rfl rfl) rfl rfl hl.1 rfl (lv_room (Nat.le_of_ble_eq_true rfl)) d_T_cutOne_43 ⟨Nat.zero_le _, Nat.zero_le _⟩) hP hD hS hA [0, 1, 2, 3, 4, 5, 6] [] rfl rfl (by decide) (by decide) (fun r_10 H locs hw hP hD hS => ?_)
        subst r_10
        have hP : va_P (dC, dI) vwCl [(aT, .inr (2, [.ref aK, .ref aG, .ref aE, .ref aW, .int o_10.2.1, .int ts])), (aK, .inl (cK, 1024, .inl o_10.2.2.1)), (aG, .inl (cG, 1024, .inl o_10.2.2.2.1)), (aE, .inl (cE, 1024, .inl o_10.2.2.2.2.1)), (aW, .inl (cW, 1024, .inr (.inl o_10.2.2.2.2.2))), (aL, .inr (1, [.ref aB, .int ln])), (aB, .inl (cB, 1024, .inl lb))] H := hP
        have hD : va_D A [(aT, .inr (2, [.ref aK, .ref aG, .ref aE, .ref aW, .int o_10.2.1, .int ts])), (aK, .inl (cK, 1024, .inl o_10.2.2.1)), (aG, .inl (cG, 1024, .inl o_10.2.2.2.1)), (aE, .inl (cE, 1024, .inl o_10.2.2.2.2.1)), (aW, .inl (cW, 1024, .inr (.inl o_10.2.2.2.2.2))), (aL, .inr (1, [.ref aB, .int ln])), (aB, .inl (cB, 1024, .inl lb))] := hD
        have ho := Option.some.inj hf
        subst o
        have hP9 := hP.sub (ws' := [(aT, .inr (2, [.ref aK, .ref aG, .ref aE, .ref aW, .int o_10.2.1, .int ts])), (aK, .inl (cK, 1024, .inl o_10.2.2.1)), (aG, .inl (cG, 1024, .inl o_10.2.2.2.1)), (aE, .inl (cE, 1024, .inl o_10.2.2.2.2.1)), (aW, .inl (cW, 1024, .inr (.inl o_10.2.2.2.2.2))), (aL, .inr (1, [.ref aB, .int ln])), (aB, .inl (cB, 1024, .inl lb))]) [0, 1, 2, 3, 4, 5, 6] rfl
        have hD9 := hD.sub (ws' := [(aT, .inr (2, [.ref aK, .ref aG, .ref aE, .ref aW, .int o_10.2.1, .int ts])), (aK, .inl (cK, 1024, .inl o_10.2.2.1)), (aG, .inl (cG, 1024, .inl o_10.2.2.2.1)), (aE, .inl (cE, 1024, .inl o_10.2.2.2.2.1)), (aW, .inl (cW, 1024, .inr (.inl o_10.2.2.2.2.2))), (aL, .inr (1, [.ref aB, .int ln])), (aB, .inl (cB, 1024, .inl lb))]) [0, 1, 2, 3, 4, 5, 6] (by decide) rfl
        exact W.iret (v := o_10.1) hx hb hr (fun t ht hW => ⟨⟨o_10.1, (), rfl, rfl, by rw [ht]; exact hP9, va_K.moved hW.alike hK, hD9⟩, hS.F ht⟩) hS.2.2 d_T_cutOne_46
    · rw [if_neg c_5] at hf
      refine lv_aload_n hx hb d_T_cutOne_27 rfl (lv_at hl 1 rfl) ?_
      refine lv_aload_n hx hb d_T_cutOne_28 rfl (lv_at hl 2 rfl) ?_
      refine lv_iload_n hx hb d_T_cutOne_29 rfl (lv_at hl 3 rfl) ?_
      obtain ⟨o_11, hM_11, hf⟩ := bd_some hf
      refine cl_i (wr := []) (va_runV (As := [.ref aL, .int p1]) (rest := []) ⟨hx, hb, hml, hown, hts⟩ (c_T_cutName l dC dI aT aK aG aE aW aL aB cK cG cE cW cB H.size tn ts tk tb te tw ln lb p1 o_11 hM_11) (cwV 2 hts (gwV wb_87 wb_89 wb_90 wb_32 wb_88) rfl rfl rfl (by decide +kernel) ⟨Nat.le_of_ble_eq_true rfl, Nat.le_of_ble_eq_true rfl⟩) (pr_V (hP.sub [0, 1, 2, 3, 4, 5, 6] rfl) (hD.sub [0, 1, 2, 3, 4, 5, 6] (by decide) rfl) hK hN [0, 1, 2, 3, 4] rfl (ci := 2) rfl rfl rfl) rfl rfl hl.1 rfl (lv_room (Nat.le_of_ble_eq_true rfl)) d_T_cutOne_30 ⟨Nat.zero_le _, Nat.zero_le _⟩) hP hD hS hA [0, 1, 2, 3, 4, 5, 6] [] rfl rfl (by decide) (by decide) (fun r_11 H locs hw hP hD hS => ?_)
      subst r_11
      have hP : va_P (dC, dI) vwCl [(aT, .inr (2, [.ref aK, .ref aG, .ref aE, .ref aW, .int o_11.2.1, .int ts])), (aK, .inl (cK, 1024, .inl o_11.2.2.1)), (aG, .inl (cG, 1024, .inl o_11.2.2.2.1)), (aE, .inl (cE, 1024, .inl o_11.2.2.2.2.1)), (aW, .inl (cW, 1024, .inr (.inl o_11.2.2.2.2.2))), (aL, .inr (1, [.ref aB, .int ln])), (aB, .inl (cB, 1024, .inl lb))] H := hP
      have hD : va_D A [(aT, .inr (2, [.ref aK, .ref aG, .ref aE, .ref aW, .int o_11.2.1, .int ts])), (aK, .inl (cK, 1024, .inl o_11.2.2.1)), (aG, .inl (cG, 1024, .inl o_11.2.2.2.1)), (aE, .inl (cE, 1024, .inl o_11.2.2.2.2.1)), (aW, .inl (cW, 1024, .inr (.inl o_11.2.2.2.2.2))), (aL, .inr (1, [.ref aB, .int ln])), (aB, .inl (cB, 1024, .inl lb))] := hD
      have ho := Option.some.inj hf
      subst o
      have hP9 := hP.sub (ws' := [(aT, .inr (2, [.ref aK, .ref aG, .ref aE, .ref aW, .int o_11.2.1, .int ts])), (aK, .inl (cK, 1024, .inl o_11.2.2.1)), (aG, .inl (cG, 1024, .inl o_11.2.2.2.1)), (aE, .inl (cE, 1024, .inl o_11.2.2.2.2.1)), (aW, .inl (cW, 1024, .inr (.inl o_11.2.2.2.2.2))), (aL, .inr (1, [.ref aB, .int ln])), (aB, .inl (cB, 1024, .inl lb))]) [0, 1, 2, 3, 4, 5, 6] rfl
      have hD9 := hD.sub (ws' := [(aT, .inr (2, [.ref aK, .ref aG, .ref aE, .ref aW, .int o_11.2.1, .int ts])), (aK, .inl (cK, 1024, .inl o_11.2.2.1)), (aG, .inl (cG, 1024, .inl o_11.2.2.2.1)), (aE, .inl (cE, 1024, .inl o_11.2.2.2.2.1)), (aW, .inl (cW, 1024, .inr (.inl o_11.2.2.2.2.2))), (aL, .inr (1, [.ref aB, .int ln])), (aB, .inl (cB, 1024, .inl lb))]) [0, 1, 2, 3, 4, 5, 6] (by decide) rfl
      exact W.iret (v := o_11.1) hx hb hr (fun t ht hW => ⟨⟨o_11.1, (), rfl, rfl, by rw [ht]; exact hP9, va_K.moved hW.alike hK, hD9⟩, hS.F ht⟩) hS.2.2 d_T_cutOne_33
  · rw [if_neg c_3] at hf
    refine lv_aload_n hx hb d_T_cutOne_13 rfl (lv_at hl 1 rfl) ?_
    refine lv_aload_n hx hb d_T_cutOne_14 rfl (lv_at hl 2 rfl) ?_
    refine lv_iload_n hx hb d_T_cutOne_15 rfl (lv_at hl 3 rfl) ?_
    obtain ⟨o_12, hM_12, hf⟩ := bd_some hf
    refine cl_i (wr := []) (va_runV (As := [.ref aL, .int p1]) (rest := []) ⟨hx, hb, hml, hown, hts⟩ (c_T_cutNumber l dC dI aT aK aG aE aW aL aB cK cG cE cW cB H.size tn ts tk tb te tw ln lb p1 o_12 hM_12) (cwV 2 hts (gwV wb_91 wb_93 wb_94 wb_32 wb_92) rfl rfl rfl (by decide +kernel) ⟨Nat.le_of_ble_eq_true rfl, Nat.le_of_ble_eq_true rfl⟩) (pr_V (hP.sub [0, 1, 2, 3, 4, 5, 6] rfl) (hD.sub [0, 1, 2, 3, 4, 5, 6] (by decide) rfl) hK hN [0, 1, 2, 3, 4] rfl (ci := 2) rfl rfl rfl) rfl rfl hl.1 rfl (lv_room (Nat.le_of_ble_eq_true rfl)) d_T_cutOne_16 ⟨Nat.zero_le _, Nat.zero_le _⟩) hP hD hS hA [0, 1, 2, 3, 4, 5, 6] [] rfl rfl (by decide) (by decide) (fun r_12 H locs hw hP hD hS => ?_)
    subst r_12
    have hP : va_P (dC, dI) vwCl [(aT, .inr (2, [.ref aK, .ref aG, .ref aE, .ref aW, .int o_12.2.1, .int ts])), (aK, .inl (cK, 1024, .inl o_12.2.2.1)), (aG, .inl (cG, 1024, .inl o_12.2.2.2.1)), (aE, .inl (cE, 1024, .inl o_12.2.2.2.2.1)), (aW, .inl (cW, 1024, .inr (.inl o_12.2.2.2.2.2))), (aL, .inr (1, [.ref aB, .int ln])), (aB, .inl (cB, 1024, .inl lb))] H := hP
    have hD : va_D A [(aT, .inr (2, [.ref aK, .ref aG, .ref aE, .ref aW, .int o_12.2.1, .int ts])), (aK, .inl (cK, 1024, .inl o_12.2.2.1)), (aG, .inl (cG, 1024, .inl o_12.2.2.2.1)), (aE, .inl (cE, 1024, .inl o_12.2.2.2.2.1)), (aW, .inl (cW, 1024, .inr (.inl o_12.2.2.2.2.2))), (aL, .inr (1, [.ref aB, .int ln])), (aB, .inl (cB, 1024, .inl lb))] := hD
    have ho := Option.some.inj hf
    subst o
    have hP9 := hP.sub (ws' := [(aT, .inr (2, [.ref aK, .ref aG, .ref aE, .ref aW, .int o_12.2.1, .int ts])), (aK, .inl (cK, 1024, .inl o_12.2.2.1)), (aG, .inl (cG, 1024, .inl o_12.2.2.2.1)), (aE, .inl (cE, 1024, .inl o_12.2.2.2.2.1)), (aW, .inl (cW, 1024, .inr (.inl o_12.2.2.2.2.2))), (aL, .inr (1, [.ref aB, .int ln])), (aB, .inl (cB, 1024, .inl lb))]) [0, 1, 2, 3, 4, 5, 6] rfl
    have hD9 := hD.sub (ws' := [(aT, .inr (2, [.ref aK, .ref aG, .ref aE, .ref aW, .int o_12.2.1, .int ts])), (aK, .inl (cK, 1024, .inl o_12.2.2.1)), (aG, .inl (cG, 1024, .inl o_12.2.2.2.1)), (aE, .inl (cE, 1024, .inl o_12.2.2.2.2.1)), (aW, .inl (cW, 1024, .inr (.inl o_12.2.2.2.2.2))), (aL, .inr (1, [.ref aB, .int ln])), (aB, .inl (cB, 1024, .inl lb))]) [0, 1, 2, 3, 4, 5, 6] (by decide) rfl
    exact W.iret (v := o_12.1) hx hb hr (fun t ht hW => ⟨⟨o_12.1, (), rfl, rfl, by rw [ht]; exact hP9, va_K.moved hW.alike hK, hD9⟩, hS.F ht⟩) hS.2.2 d_T_cutOne_19

def f_T_cut_l18 : Nat → Int32 → Int32 → (Nat → Int32) → (Nat → Int32) → (Nat → Int32) → (Nat → Int64) → Int32 → (Nat → Int32) → Int32 → Int32 → Option (Int32 × Int32 × (Nat → Int32) × (Nat → Int32) × (Nat → Int32) × (Nat → Int64))
  | 0, _, _, _, _, _, _, _, _, _, _ => none
  | n + 1, tn, ts, tk, tb, te, tw, ln, lb, x2, x3 => if (1024 : Int32) ≤ x3 then some (tn, ts, tk, tb, te, tw) else (f_L_size ln).bind (fun o_3 => if o_3 ≤ x2 then some (tn, ts, tk, tb, te, tw) else (f_T_cutOne tn tk tb te tw ln lb x2).bind (fun o_5 => if o_5.1 = (-1 : Int32) then some (o_5.2.1, (0 : Int32), o_5.2.2.1, o_5.2.2.2.1, o_5.2.2.2.2.1, o_5.2.2.2.2.2) else (f_S_nextStart ln lb o_5.1).bind (fun o_7 => f_T_cut_l18 n o_5.2.1 ts o_5.2.2.1 o_5.2.2.2.1 o_5.2.2.2.2.1 o_5.2.2.2.2.2 ln lb o_7 (x3 + (1 : Int32)))))
def f_T_cut (tn : Int32) (ts : Int32) (tk : Nat → Int32) (tb : Nat → Int32) (te : Nat → Int32) (tw : Nat → Int64) (ln : Int32) (lb : Nat → Int32) : Option (Int32 × Int32 × (Nat → Int32) × (Nat → Int32) × (Nat → Int32) × (Nat → Int64)) := (f_S_nextStart ln lb (0 : Int32)).bind (fun o_1 => f_T_cut_l18 FU (0 : Int32) (1 : Int32) tk tb te tw ln lb o_1 (0 : Int32))
set_option maxHeartbeats 4000000 in
set_option maxRecDepth 100000 in
theorem c_T_cut (l : Launch) (dC : Nat → ClassId) (dI : Nat → Nat → Nat) (aT aK aG aE aW aL aB : Nat) (cK cG cE cW cB : ClassId) (sz : Nat) (tn : Int32) (ts : Int32) (tk : Nat → Int32) (tb : Nat → Int32) (te : Nat → Int32) (tw : Nat → Int64) (ln : Int32) (lb : Nat → Int32) (o : Int32 × Int32 × (Nat → Int32) × (Nat → Int32) × (Nat → Int32) × (Nat → Int64)) (hf : f_T_cut tn ts tk tb te tw ln lb = some o) : Met l y_T_cut (w_T_cut) ({ frames := 5, cells := 0, slots := 0, locals := 115 }) (va_Pc [.ref aT, .ref aL] (fun U => U.heap.size = sz ∧ va_P (dC, dI) vwCl [(aT, .inr (2, [.ref aK, .ref aG, .ref aE, .ref aW, .int tn, .int ts])), (aK, .inl (cK, 1024, .inl tk)), (aG, .inl (cG, 1024, .inl tb)), (aE, .inl (cE, 1024, .inl te)), (aW, .inl (cW, 1024, .inr (.inl tw))), (aL, .inr (1, [.ref aB, .int ln])), (aB, .inl (cB, 1024, .inl lb))] U.heap ∧ va_K (dC, dI) vwCl [(cK, .byte), (cG, .int), (cE, .int), (cW, .long), (cB, .byte)] U ∧ va_D (fun _ => True) [(aT, .inr (2, [.ref aK, .ref aG, .ref aE, .ref aW, .int tn, .int ts])), (aK, .inl (cK, 1024, .inl tk)), (aG, .inl (cG, 1024, .inl tb)), (aE, .inl (cE, 1024, .inl te)), (aW, .inl (cW, 1024, .inr (.inl tw))), (aL, .inr (1, [.ref aB, .int ln])), (aB, .inl (cB, 1024, .inl lb))] ∧ NW U)) (va_Qv (fun (_ : Unit) => True) (fun _ t => va_P (dC, dI) vwCl [(aT, .inr (2, [.ref aK, .ref aG, .ref aE, .ref aW, .int o.1, .int o.2.1])), (aK, .inl (cK, 1024, .inl o.2.2.1)), (aG, .inl (cG, 1024, .inl o.2.2.2.1)), (aE, .inl (cE, 1024, .inl o.2.2.2.2.1)), (aW, .inl (cW, 1024, .inr (.inl o.2.2.2.2.2))), (aL, .inr (1, [.ref aB, .int ln])), (aB, .inl (cB, 1024, .inl lb))] t.heap ∧ va_K (dC, dI) vwCl [(cK, .byte), (cG, .int), (cE, .int), (cW, .long), (cB, .byte)] t ∧ va_D (va_A [(aT, .inr (2, [.ref aK, .ref aG, .ref aE, .ref aW, .int tn, .int ts])), (aK, .inl (cK, 1024, .inl tk)), (aG, .inl (cG, 1024, .inl tb)), (aE, .inl (cE, 1024, .inl te)), (aW, .inl (cW, 1024, .inr (.inl tw))), (aL, .inr (1, [.ref aB, .int ln])), (aB, .inl (cB, 1024, .inl lb))] sz) [(aT, .inr (2, [.ref aK, .ref aG, .ref aE, .ref aW, .int o.1, .int o.2.1])), (aK, .inl (cK, 1024, .inl o.2.2.1)), (aG, .inl (cG, 1024, .inl o.2.2.2.1)), (aE, .inl (cE, 1024, .inl o.2.2.2.2.1)), (aW, .inl (cW, 1024, .inr (.inl o.2.2.2.2.2))), (aL, .inr (1, [.ref aB, .int ln])), (aB, .inl (cB, 1024, .inl lb))]) (va_A [(aT, .inr (2, [.ref aK, .ref aG, .ref aE, .ref aW, .int tn, .int ts])), (aK, .inl (cK, 1024, .inl tk)), (aG, .inl (cG, 1024, .inl tb)), (aE, .inl (cE, 1024, .inl te)), (aW, .inl (cW, 1024, .inr (.inl tw))), (aL, .inr (1, [.ref aB, .int ln])), (aB, .inl (cB, 1024, .inl lb))] sz)) 0 0 (va_A [(aT, .inr (2, [.ref aK, .ref aG, .ref aE, .ref aW, .int tn, .int ts])), (aK, .inl (cK, 1024, .inl tk)), (aG, .inl (cG, 1024, .inl tb)), (aE, .inl (cE, 1024, .inl te)), (aW, .inl (cW, 1024, .inr (.inl tw))), (aL, .inr (1, [.ref aB, .int ln])), (aB, .inl (cB, 1024, .inl lb))] sz) := by
  refine Met.ofW (cc := b_T_cut) (maxL := 5) (ret := none) (by decide) rfl ?_
  intro p e s m args below meth c s₁ B hml hv
  obtain ⟨rfl, hsz, hP, hK, hD0, hN⟩ := hv
  have hx := B.exec
  have hb := B.bytes
  have hr := B.returns
  have hts : ∀ w ∈ WB, w.before _ s = true := fun w h => atoms_spec (ws := w_T_cut) B.pre w (List.mem_cons_of_mem _ h)
  have hown : s.vm.findClass R_T = some m.cls := findClass_of_methodNamed B.named
  have hlocks := B.notSynchronized
  subst hsz
  have hD := hD0.self (sz := s.heap.size)
  generalize hAe : va_A [(aT, .inr (2, [.ref aK, .ref aG, .ref aE, .ref aW, .int tn, .int ts])), (aK, .inl (cK, 1024, .inl tk)), (aG, .inl (cG, 1024, .inl tb)), (aE, .inl (cE, 1024, .inl te)), (aW, .inl (cW, 1024, .inr (.inl tw))), (aL, .inr (1, [.ref aB, .int ln])), (aB, .inl (cB, 1024, .inl lb))] s.heap.size = A at hD ⊢
  have hA : ∀ q : Nat, s.heap.size ≤ q → A q := fun q h => by rw [← hAe]; exact Or.inr h
  have hS : va_S A s.heap s.heap [] := va_S.rf
  have hP : va_P (dC, dI) vwCl [(aT, .inr (2, [.ref aK, .ref aG, .ref aE, .ref aW, .int tn, .int ts])), (aK, .inl (cK, 1024, .inl tk)), (aG, .inl (cG, 1024, .inl tb)), (aE, .inl (cE, 1024, .inl te)), (aW, .inl (cW, 1024, .inr (.inl tw))), (aL, .inr (1, [.ref aB, .int ln])), (aB, .inl (cB, 1024, .inl lb))] s.heap := hP
  have hl := lv_entry [.ref aT, .ref aL] (n := 5) (Nat.le_of_ble_eq_true rfl)
  rw [lg_entry_eq]
  generalize (lg_sl [.ref aT, .ref aL] ++ List.replicate (5 - (lg_sl [.ref aT, .ref aL]).length) Slot.unset).toArray = ls at hl ⊢
  have hl : lv_has ls 5 [(0, .ref aT), (1, .ref aL)] := hl
  have loop_18 : ∀ (n : Nat) (tn : Int32) (ts : Int32) (tk : Nat → Int32) (tb : Nat → Int32) (te : Nat → Int32) (tw : Nat → Int64) (ln : Int32) (lb : Nat → Int32) (x2 : Int32) (x3 : Int32) (H : Heap) (locs : List Loc) (ls : Array Slot), f_T_cut_l18 n tn ts tk tb te tw ln lb x2 x3 = some o → va_P (dC, dI) vwCl [(aT, .inr (2, [.ref aK, .ref aG, .ref aE, .ref aW, .int tn, .int ts])), (aK, .inl (cK, 1024, .inl tk)), (aG, .inl (cG, 1024, .inl tb)), (aE, .inl (cE, 1024, .inl te)), (aW, .inl (cW, 1024, .inr (.inl tw))), (aL, .inr (1, [.ref aB, .int ln])), (aB, .inl (cB, 1024, .inl lb))] H → va_D A [(aT, .inr (2, [.ref aK, .ref aG, .ref aE, .ref aW, .int tn, .int ts])), (aK, .inl (cK, 1024, .inl tk)), (aG, .inl (cG, 1024, .inl tb)), (aE, .inl (cE, 1024, .inl te)), (aW, .inl (cW, 1024, .inr (.inl tw))), (aL, .inr (1, [.ref aB, .int ln])), (aB, .inl (cB, 1024, .inl lb))] → va_S A s.heap H locs → lv_has ls 5 [(0, .ref aT), (1, .ref aL), (2, .int x2), (3, .int x3)] → W p l e (headSpec (w_T_cut) ({ frames := 5, cells := 0, slots := 0, locals := 115 })).room s m [.ref aT, .ref aL].toArray below meth c H locs 0 0 (MQ below (va_Qv (fun (_ : Unit) => True) (fun _ t => va_P (dC, dI) vwCl [(aT, .inr (2, [.ref aK, .ref aG, .ref aE, .ref aW, .int o.1, .int o.2.1])), (aK, .inl (cK, 1024, .inl o.2.2.1)), (aG, .inl (cG, 1024, .inl o.2.2.2.1)), (aE, .inl (cE, 1024, .inl o.2.2.2.2.1)), (aW, .inl (cW, 1024, .inr (.inl o.2.2.2.2.2))), (aL, .inr (1, [.ref aB, .int ln])), (aB, .inl (cB, 1024, .inl lb))] t.heap ∧ va_K (dC, dI) vwCl [(cK, .byte), (cG, .int), (cE, .int), (cW, .long), (cB, .byte)] t ∧ va_D A [(aT, .inr (2, [.ref aK, .ref aG, .ref aE, .ref aW, .int o.1, .int o.2.1])), (aK, .inl (cK, 1024, .inl o.2.2.1)), (aG, .inl (cG, 1024, .inl o.2.2.2.1)), (aE, .inl (cE, 1024, .inl o.2.2.2.2.1)), (aW, .inl (cW, 1024, .inr (.inl o.2.2.2.2.2))), (aL, .inr (1, [.ref aB, .int ln])), (aB, .inl (cB, 1024, .inl lb))]) A) [.ref aT, .ref aL].toArray s 0 0 A) (F0 m 18 ls []) := by
    intro n
    induction n with
    | zero => intro tn ts tk tb te tw ln lb x2 x3 H locs ls hf; exact absurd hf (by simp [f_T_cut_l18])
    | succ n ih =>
      intro tn ts tk tb te tw ln lb x2 x3 H locs ls hf hP hD hS hl
      rw [f_T_cut_l18] at hf
      refine lv_iload_n hx hb d_T_cut_18 rfl (lv_at hl 3 rfl) ?_
      refine lv_sipush (v := (1024 : Int32)) hx hb d_T_cut_19 (by decide) ?_
      refine lv_icmp_ge (tgt := 66) hx hb d_T_cut_22 (by decide) (fun c_2 => ?_) (fun c_2 => ?_)
      · rw [if_pos c_2] at hf
        have ho := Option.some.inj hf
        subst o
        have hP9 := hP.sub (ws' := [(aT, .inr (2, [.ref aK, .ref aG, .ref aE, .ref aW, .int tn, .int ts])), (aK, .inl (cK, 1024, .inl tk)), (aG, .inl (cG, 1024, .inl tb)), (aE, .inl (cE, 1024, .inl te)), (aW, .inl (cW, 1024, .inr (.inl tw))), (aL, .inr (1, [.ref aB, .int ln])), (aB, .inl (cB, 1024, .inl lb))]) [0, 1, 2, 3, 4, 5, 6] rfl
        have hD9 := hD.sub (ws' := [(aT, .inr (2, [.ref aK, .ref aG, .ref aE, .ref aW, .int tn, .int ts])), (aK, .inl (cK, 1024, .inl tk)), (aG, .inl (cG, 1024, .inl tb)), (aE, .inl (cE, 1024, .inl te)), (aW, .inl (cW, 1024, .inr (.inl tw))), (aL, .inr (1, [.ref aB, .int ln])), (aB, .inl (cB, 1024, .inl lb))]) [0, 1, 2, 3, 4, 5, 6] (by decide) rfl
        exact W.vret hx hb hr (fun t ht hW => ⟨⟨(), rfl, trivial, by rw [ht]; exact hP9, va_K.moved hW.alike hK, hD9⟩, hS.F ht⟩) hS.2.2 d_T_cut_66
      · rw [if_neg c_2] at hf
        refine lv_iload_n hx hb d_T_cut_25 rfl (lv_at hl 2 rfl) ?_
        refine lv_aload_n hx hb d_T_cut_26 rfl (lv_at hl 1 rfl) ?_
        obtain ⟨o_3, hM_3, hf⟩ := bd_some hf
        refine cr_i (va_runV (As := []) (rest := [.int x2]) ⟨hx, hb, hml, hown, hts⟩ (c_L_size l dC dI aL aB  H.size ln  o_3 hM_3) (cwV 0 hts (gwV wb_98 wb_13 wb_14 wb_6 wb_12) rfl rfl rfl (by decide +kernel) ⟨Nat.le_of_ble_eq_true rfl, Nat.le_of_ble_eq_true rfl⟩) (pr_V (hP.sub [5] rfl) (hD.sub [5] (by decide) rfl) hK hN [] rfl (ci := 1) rfl rfl rfl) rfl rfl hl.1 rfl (lv_room (Nat.le_of_ble_eq_true rfl)) d_T_cut_27 ⟨Nat.zero_le _, Nat.zero_le _⟩) hP hD hS hA (in_of [5] rfl) (fun r_3 H locs hw hP hS => ?_)
        subst r_3
        refine lv_icmp_ge (tgt := 66) hx hb d_T_cut_30 (by decide) (fun c_4 => ?_) (fun c_4 => ?_)
        · rw [if_pos c_4] at hf
          have ho := Option.some.inj hf
          subst o
          have hP9 := hP.sub (ws' := [(aT, .inr (2, [.ref aK, .ref aG, .ref aE, .ref aW, .int tn, .int ts])), (aK, .inl (cK, 1024, .inl tk)), (aG, .inl (cG, 1024, .inl tb)), (aE, .inl (cE, 1024, .inl te)), (aW, .inl (cW, 1024, .inr (.inl tw))), (aL, .inr (1, [.ref aB, .int ln])), (aB, .inl (cB, 1024, .inl lb))]) [0, 1, 2, 3, 4, 5, 6] rfl
          have hD9 := hD.sub (ws' := [(aT, .inr (2, [.ref aK, .ref aG, .ref aE, .ref aW, .int tn, .int ts])), (aK, .inl (cK, 1024, .inl tk)), (aG, .inl (cG, 1024, .inl tb)), (aE, .inl (cE, 1024, .inl te)), (aW, .inl (cW, 1024, .inr (.inl tw))), (aL, .inr (1, [.ref aB, .int ln])), (aB, .inl (cB, 1024, .inl lb))]) [0, 1, 2, 3, 4, 5, 6] (by decide) rfl
          exact W.vret hx hb hr (fun t ht hW => ⟨⟨(), rfl, trivial, by rw [ht]; exact hP9, va_K.moved hW.alike hK, hD9⟩, hS.F ht⟩) hS.2.2 d_T_cut_66
        · rw [if_neg c_4] at hf
          refine lv_aload_n hx hb d_T_cut_33 rfl (lv_at hl 0 rfl) ?_
          refine lv_aload_n hx hb d_T_cut_34 rfl (lv_at hl 1 rfl) ?_
          refine lv_iload_n hx hb d_T_cut_35 rfl (lv_at hl 2 rfl) ?_
          obtain ⟨o_5, hM_5, hf⟩ := bd_some hf
          refine cl_i (wr := []) (va_runV (As := [.ref aL, .int x2]) (rest := []) ⟨hx, hb, hml, hown, hts⟩ (c_T_cutOne l dC dI aT aK aG aE aW aL aB cK cG cE cW cB H.size tn ts tk tb te tw ln lb x2 o_5 hM_5) (cwV 2 hts (gwV wb_99 wb_101 wb_102 wb_32 wb_100) rfl rfl rfl (by decide +kernel) ⟨Nat.le_of_ble_eq_true rfl, Nat.le_of_ble_eq_true rfl⟩) (pr_V (hP.sub [0, 1, 2, 3, 4, 5, 6] rfl) (hD.sub [0, 1, 2, 3, 4, 5, 6] (by decide) rfl) hK hN [0, 1, 2, 3, 4] rfl (ci := 2) rfl rfl rfl) rfl rfl hl.1 rfl (lv_room (Nat.le_of_ble_eq_true rfl)) d_T_cut_36 ⟨Nat.zero_le _, Nat.zero_le _⟩) hP hD hS hA [0, 1, 2, 3, 4, 5, 6] [] rfl rfl (by decide) (by decide) (fun r_5 H locs hw hP hD hS => ?_)
          subst r_5
          have hP : va_P (dC, dI) vwCl [(aT, .inr (2, [.ref aK, .ref aG, .ref aE, .ref aW, .int o_5.2.1, .int ts])), (aK, .inl (cK, 1024, .inl o_5.2.2.1)), (aG, .inl (cG, 1024, .inl o_5.2.2.2.1)), (aE, .inl (cE, 1024, .inl o_5.2.2.2.2.1)), (aW, .inl (cW, 1024, .inr (.inl o_5.2.2.2.2.2))), (aL, .inr (1, [.ref aB, .int ln])), (aB, .inl (cB, 1024, .inl lb))] H := hP
          have hD : va_D A [(aT, .inr (2, [.ref aK, .ref aG, .ref aE, .ref aW, .int o_5.2.1, .int ts])), (aK, .inl (cK, 1024, .inl o_5.2.2.1)), (aG, .inl (cG, 1024, .inl o_5.2.2.2.1)), (aE, .inl (cE, 1024, .inl o_5.2.2.2.2.1)), (aW, .inl (cW, 1024, .inr (.inl o_5.2.2.2.2.2))), (aL, .inr (1, [.ref aB, .int ln])), (aB, .inl (cB, 1024, .inl lb))] := hD
          refine lv_istore (lv' := [(4, .int o_5.1), (0, .ref aT), (1, .ref aL), (2, .int x2), (3, .int x3)]) hx hb d_T_cut_39 hl (by decide) rfl (fun ls hl => ?_)
          refine lv_iload hx hb d_T_cut_41 (lv_at hl 0 rfl) ?_
          refine lv_iconst (v := (-1 : Int32)) hx hb d_T_cut_43 (by decide) ?_
          refine lv_icmp_ne (tgt := 53) hx hb d_T_cut_44 (by decide) (fun c_6 => ?_) (fun c_6 => ?_)
          · rw [if_neg c_6] at hf
            refine lv_aload_n hx hb d_T_cut_53 rfl (lv_at hl 2 rfl) ?_
            refine lv_iload hx hb d_T_cut_54 (lv_at hl 0 rfl) ?_
            obtain ⟨o_7, hM_7, hf⟩ := bd_some hf
            refine cr_i (va_runS (As := [.ref aL, .int o_5.1]) (rest := []) ⟨hx, hb, hml, hown, hts⟩ (c_S_nextStart l dC dI aL aB cB H.size ln lb o_5.1 o_7 hM_7) (va_cwS 2 hts (gwS wb_95 wb_97 wb_10 wb_96) rfl rfl rfl (by decide +kernel) ⟨Nat.le_of_ble_eq_true rfl, Nat.le_of_ble_eq_true rfl⟩) (pr_S (hP.sub [5, 6] rfl) (hD.sub [5, 6] (by decide) rfl) hK hN [4] rfl) rfl rfl hl.1 rfl (lv_room (Nat.le_of_ble_eq_true rfl)) d_T_cut_56 ⟨Nat.zero_le _, Nat.zero_le _⟩) hP hD hS hA (in_of [5, 6] rfl) (fun r_7 H locs hw hP hS => ?_)
            subst r_7
            refine lv_istore_n (lv' := [(2, .int o_7), (4, .int o_5.1), (0, .ref aT), (1, .ref aL), (3, .int x3)]) hx hb d_T_cut_59 rfl hl (by decide) rfl (fun ls hl => ?_)
            refine lv_iinc (v := x3 + (1 : Int32)) (lv' := [(3, .int (x3 + (1 : Int32))), (2, .int o_7), (4, .int o_5.1), (0, .ref aT), (1, .ref aL)]) hx hb d_T_cut_60 hl (k := 4) rfl rfl (by decide) rfl (fun ls hl => ?_)
            refine lv_goto (tgt := 18) hx hb d_T_cut_63 (by decide) ?_
            exact ih o_5.2.1 ts o_5.2.2.1 o_5.2.2.2.1 o_5.2.2.2.2.1 o_5.2.2.2.2.2 ln lb o_7 (x3 + (1 : Int32)) H locs ls hf (hP.sub (ws' := [(aT, .inr (2, [.ref aK, .ref aG, .ref aE, .ref aW, .int o_5.2.1, .int ts])), (aK, .inl (cK, 1024, .inl o_5.2.2.1)), (aG, .inl (cG, 1024, .inl o_5.2.2.2.1)), (aE, .inl (cE, 1024, .inl o_5.2.2.2.2.1)), (aW, .inl (cW, 1024, .inr (.inl o_5.2.2.2.2.2))), (aL, .inr (1, [.ref aB, .int ln])), (aB, .inl (cB, 1024, .inl lb))]) [0, 1, 2, 3, 4, 5, 6] rfl) (hD.sub (ws' := [(aT, .inr (2, [.ref aK, .ref aG, .ref aE, .ref aW, .int o_5.2.1, .int ts])), (aK, .inl (cK, 1024, .inl o_5.2.2.1)), (aG, .inl (cG, 1024, .inl o_5.2.2.2.1)), (aE, .inl (cE, 1024, .inl o_5.2.2.2.2.1)), (aW, .inl (cW, 1024, .inr (.inl o_5.2.2.2.2.2))), (aL, .inr (1, [.ref aB, .int ln])), (aB, .inl (cB, 1024, .inl lb))]) [0, 1, 2, 3, 4, 5, 6] (by decide) rfl) hS (lv_sub hl [3, 4, 1, 0] rfl)
          · rw [if_pos c_6] at hf
            refine lv_aload_n hx hb d_T_cut_47 rfl (lv_at hl 1 rfl) ?_
            refine lv_iconst (v := (0 : Int32)) hx hb d_T_cut_48 (by decide) ?_
            refine va_put (D := (dC, dI)) (ci := 2) (v := .int (0 : Int32)) (ty := .boolean) (C := R_T) (T := F_T) (N := 6) hx hb hts i_T ft_T tk_T n_T hown hK hP hD hS 0 rfl rfl 5 (by decide) (hts _ wb_27) (fun _ h9 => h9) rfl (by decide +kernel) rfl rfl (Nat.le_of_ble_eq_true rfl) d_T_cut_49 (fun H locs hP hD hS => ?_)
            have hP : va_P (dC, dI) vwCl [(aT, .inr (2, [.ref aK, .ref aG, .ref aE, .ref aW, .int o_5.2.1, .int (0 : Int32)])), (aK, .inl (cK, 1024, .inl o_5.2.2.1)), (aG, .inl (cG, 1024, .inl o_5.2.2.2.1)), (aE, .inl (cE, 1024, .inl o_5.2.2.2.2.1)), (aW, .inl (cW, 1024, .inr (.inl o_5.2.2.2.2.2))), (aL, .inr (1, [.ref aB, .int ln])), (aB, .inl (cB, 1024, .inl lb))] H := hP
            have hD : va_D A [(aT, .inr (2, [.ref aK, .ref aG, .ref aE, .ref aW, .int o_5.2.1, .int (0 : Int32)])), (aK, .inl (cK, 1024, .inl o_5.2.2.1)), (aG, .inl (cG, 1024, .inl o_5.2.2.2.1)), (aE, .inl (cE, 1024, .inl o_5.2.2.2.2.1)), (aW, .inl (cW, 1024, .inr (.inl o_5.2.2.2.2.2))), (aL, .inr (1, [.ref aB, .int ln])), (aB, .inl (cB, 1024, .inl lb))] := hD
            have ho := Option.some.inj hf
            subst o
            have hP9 := hP.sub (ws' := [(aT, .inr (2, [.ref aK, .ref aG, .ref aE, .ref aW, .int o_5.2.1, .int (0 : Int32)])), (aK, .inl (cK, 1024, .inl o_5.2.2.1)), (aG, .inl (cG, 1024, .inl o_5.2.2.2.1)), (aE, .inl (cE, 1024, .inl o_5.2.2.2.2.1)), (aW, .inl (cW, 1024, .inr (.inl o_5.2.2.2.2.2))), (aL, .inr (1, [.ref aB, .int ln])), (aB, .inl (cB, 1024, .inl lb))]) [0, 1, 2, 3, 4, 5, 6] rfl
            have hD9 := hD.sub (ws' := [(aT, .inr (2, [.ref aK, .ref aG, .ref aE, .ref aW, .int o_5.2.1, .int (0 : Int32)])), (aK, .inl (cK, 1024, .inl o_5.2.2.1)), (aG, .inl (cG, 1024, .inl o_5.2.2.2.1)), (aE, .inl (cE, 1024, .inl o_5.2.2.2.2.1)), (aW, .inl (cW, 1024, .inr (.inl o_5.2.2.2.2.2))), (aL, .inr (1, [.ref aB, .int ln])), (aB, .inl (cB, 1024, .inl lb))]) [0, 1, 2, 3, 4, 5, 6] (by decide) rfl
            exact W.vret hx hb hr (fun t ht hW => ⟨⟨(), rfl, trivial, by rw [ht]; exact hP9, va_K.moved hW.alike hK, hD9⟩, hS.F ht⟩) hS.2.2 d_T_cut_52
  rw [f_T_cut] at hf
  refine lv_aload_n hx hb d_T_cut_0 rfl (lv_at hl 0 rfl) ?_
  refine lv_iconst (v := (0 : Int32)) hx hb d_T_cut_1 (by decide) ?_
  refine va_put (D := (dC, dI)) (ci := 2) (v := .int (0 : Int32)) (ty := .int) (C := R_T) (T := F_T) (N := 6) hx hb hts i_T ft_T tk_T n_T hown hK hP hD hS 0 rfl rfl 4 (by decide) (hts _ wb_26) (fun _ h9 => h9) rfl (by decide +kernel) rfl rfl (Nat.le_of_ble_eq_true rfl) d_T_cut_2 (fun H locs hP hD hS => ?_)
  have hP : va_P (dC, dI) vwCl [(aT, .inr (2, [.ref aK, .ref aG, .ref aE, .ref aW, .int (0 : Int32), .int ts])), (aK, .inl (cK, 1024, .inl tk)), (aG, .inl (cG, 1024, .inl tb)), (aE, .inl (cE, 1024, .inl te)), (aW, .inl (cW, 1024, .inr (.inl tw))), (aL, .inr (1, [.ref aB, .int ln])), (aB, .inl (cB, 1024, .inl lb))] H := hP
  have hD : va_D A [(aT, .inr (2, [.ref aK, .ref aG, .ref aE, .ref aW, .int (0 : Int32), .int ts])), (aK, .inl (cK, 1024, .inl tk)), (aG, .inl (cG, 1024, .inl tb)), (aE, .inl (cE, 1024, .inl te)), (aW, .inl (cW, 1024, .inr (.inl tw))), (aL, .inr (1, [.ref aB, .int ln])), (aB, .inl (cB, 1024, .inl lb))] := hD
  refine lv_aload_n hx hb d_T_cut_5 rfl (lv_at hl 0 rfl) ?_
  refine lv_iconst (v := (1 : Int32)) hx hb d_T_cut_6 (by decide) ?_
  refine va_put (D := (dC, dI)) (ci := 2) (v := .int (1 : Int32)) (ty := .boolean) (C := R_T) (T := F_T) (N := 6) hx hb hts i_T ft_T tk_T n_T hown hK hP hD hS 0 rfl rfl 5 (by decide) (hts _ wb_27) (fun _ h9 => h9) rfl (by decide +kernel) rfl rfl (Nat.le_of_ble_eq_true rfl) d_T_cut_7 (fun H locs hP hD hS => ?_)
  have hP : va_P (dC, dI) vwCl [(aT, .inr (2, [.ref aK, .ref aG, .ref aE, .ref aW, .int (0 : Int32), .int (1 : Int32)])), (aK, .inl (cK, 1024, .inl tk)), (aG, .inl (cG, 1024, .inl tb)), (aE, .inl (cE, 1024, .inl te)), (aW, .inl (cW, 1024, .inr (.inl tw))), (aL, .inr (1, [.ref aB, .int ln])), (aB, .inl (cB, 1024, .inl lb))] H := hP
  have hD : va_D A [(aT, .inr (2, [.ref aK, .ref aG, .ref aE, .ref aW, .int (0 : Int32), .int (1 : Int32)])), (aK, .inl (cK, 1024, .inl tk)), (aG, .inl (cG, 1024, .inl tb)), (aE, .inl (cE, 1024, .inl te)), (aW, .inl (cW, 1024, .inr (.inl tw))), (aL, .inr (1, [.ref aB, .int ln])), (aB, .inl (cB, 1024, .inl lb))] := hD
  refine lv_aload_n hx hb d_T_cut_10 rfl (lv_at hl 1 rfl) ?_
  refine lv_iconst (v := (0 : Int32)) hx hb d_T_cut_11 (by decide) ?_
  obtain ⟨o_1, hM_1, hf⟩ := bd_some hf
  refine cr_i (va_runS (As := [.ref aL, .int (0 : Int32)]) (rest := []) ⟨hx, hb, hml, hown, hts⟩ (c_S_nextStart l dC dI aL aB cB H.size ln lb (0 : Int32) o_1 hM_1) (va_cwS 2 hts (gwS wb_95 wb_97 wb_10 wb_96) rfl rfl rfl (by decide +kernel) ⟨Nat.le_of_ble_eq_true rfl, Nat.le_of_ble_eq_true rfl⟩) (pr_S (hP.sub [5, 6] rfl) (hD.sub [5, 6] (by decide) rfl) hK hN [4] rfl) rfl rfl hl.1 rfl (lv_room (Nat.le_of_ble_eq_true rfl)) d_T_cut_12 ⟨Nat.zero_le _, Nat.zero_le _⟩) hP hD hS hA (in_of [5, 6] rfl) (fun r_1 H locs hw hP hS => ?_)
  subst r_1
  refine lv_istore_n (lv' := [(2, .int o_1), (0, .ref aT), (1, .ref aL)]) hx hb d_T_cut_15 rfl hl (by decide) rfl (fun ls hl => ?_)
  refine lv_iconst (v := (0 : Int32)) hx hb d_T_cut_16 (by decide) ?_
  refine lv_istore_n (lv' := [(3, .int (0 : Int32)), (2, .int o_1), (0, .ref aT), (1, .ref aL)]) hx hb d_T_cut_17 rfl hl (by decide) rfl (fun ls hl => ?_)
  exact loop_18 FU (0 : Int32) (1 : Int32) tk tb te tw ln lb o_1 (0 : Int32) H locs ls hf (hP.sub (ws' := [(aT, .inr (2, [.ref aK, .ref aG, .ref aE, .ref aW, .int (0 : Int32), .int (1 : Int32)])), (aK, .inl (cK, 1024, .inl tk)), (aG, .inl (cG, 1024, .inl tb)), (aE, .inl (cE, 1024, .inl te)), (aW, .inl (cW, 1024, .inr (.inl tw))), (aL, .inr (1, [.ref aB, .int ln])), (aB, .inl (cB, 1024, .inl lb))]) [0, 1, 2, 3, 4, 5, 6] rfl) (hD.sub (ws' := [(aT, .inr (2, [.ref aK, .ref aG, .ref aE, .ref aW, .int (0 : Int32), .int (1 : Int32)])), (aK, .inl (cK, 1024, .inl tk)), (aG, .inl (cG, 1024, .inl tb)), (aE, .inl (cE, 1024, .inl te)), (aW, .inl (cW, 1024, .inr (.inl tw))), (aL, .inr (1, [.ref aB, .int ln])), (aB, .inl (cB, 1024, .inl lb))]) [0, 1, 2, 3, 4, 5, 6] (by decide) rfl) hS (lv_sub hl [2, 3, 1, 0] rfl)
