theorem d_X_isOperand_0 : decode b_X_isOperand 0 = .ok (.aload_n 1, 1) := by decide +kernel
theorem d_X_isOperand_1 : decode b_X_isOperand 1 = .ok (.iload_n 2, 1) := by decide +kernel
theorem d_X_isOperand_2 : decode b_X_isOperand 2 = .ok (.invokevirtual 71, 3) := by decide +kernel
theorem d_X_isOperand_5 : decode b_X_isOperand 5 = .ok (.istore_n 3, 1) := by decide +kernel
theorem d_X_isOperand_6 : decode b_X_isOperand 6 = .ok (.iload_n 3, 1) := by decide +kernel
theorem d_X_isOperand_7 : decode b_X_isOperand 7 = .ok (.iconst 1, 1) := by decide +kernel
theorem d_X_isOperand_8 : decode b_X_isOperand 8 = .ok (.if_icmp .ne 29, 3) := by decide +kernel
theorem d_X_isOperand_11 : decode b_X_isOperand 11 = .ok (.aload_n 0, 1) := by decide +kernel
theorem d_X_isOperand_12 : decode b_X_isOperand 12 = .ok (.iload_n 2, 1) := by decide +kernel
theorem d_X_isOperand_13 : decode b_X_isOperand 13 = .ok (.invokevirtual 101, 3) := by decide +kernel
theorem d_X_isOperand_16 : decode b_X_isOperand 16 = .ok (.astore 4, 2) := by decide +kernel
theorem d_X_isOperand_18 : decode b_X_isOperand 18 = .ok (.aload 4, 2) := by decide +kernel
theorem d_X_isOperand_20 : decode b_X_isOperand 20 = .ok (.ifnull 11, 3) := by decide +kernel
theorem d_X_isOperand_23 : decode b_X_isOperand 23 = .ok (.aload 4, 2) := by decide +kernel
theorem d_X_isOperand_25 : decode b_X_isOperand 25 = .ok (.getfield 105, 3) := by decide +kernel
theorem d_X_isOperand_28 : decode b_X_isOperand 28 = .ok (.ifCond .ne 7, 3) := by decide +kernel
theorem d_X_isOperand_31 : decode b_X_isOperand 31 = .ok (.iconst 1, 1) := by decide +kernel
theorem d_X_isOperand_32 : decode b_X_isOperand 32 = .ok (.goto 4, 3) := by decide +kernel
theorem d_X_isOperand_35 : decode b_X_isOperand 35 = .ok (.iconst 0, 1) := by decide +kernel
theorem d_X_isOperand_36 : decode b_X_isOperand 36 = .ok (.ireturn, 1) := by decide +kernel
theorem d_X_isOperand_37 : decode b_X_isOperand 37 = .ok (.iload_n 3, 1) := by decide +kernel
theorem d_X_isOperand_38 : decode b_X_isOperand 38 = .ok (.iconst 2, 1) := by decide +kernel
theorem d_X_isOperand_39 : decode b_X_isOperand 39 = .ok (.if_icmp .eq 13, 3) := by decide +kernel
theorem d_X_isOperand_42 : decode b_X_isOperand 42 = .ok (.aload_n 1, 1) := by decide +kernel
theorem d_X_isOperand_43 : decode b_X_isOperand 43 = .ok (.iload_n 2, 1) := by decide +kernel
theorem d_X_isOperand_44 : decode b_X_isOperand 44 = .ok (.invokevirtual 87, 3) := by decide +kernel
theorem d_X_isOperand_47 : decode b_X_isOperand 47 = .ok (.bipush 36, 2) := by decide +kernel
theorem d_X_isOperand_49 : decode b_X_isOperand 49 = .ok (.if_icmp .ne 7, 3) := by decide +kernel
theorem d_X_isOperand_52 : decode b_X_isOperand 52 = .ok (.iconst 1, 1) := by decide +kernel
theorem d_X_isOperand_53 : decode b_X_isOperand 53 = .ok (.goto 4, 3) := by decide +kernel
theorem d_X_isOperand_56 : decode b_X_isOperand 56 = .ok (.iconst 0, 1) := by decide +kernel
theorem d_X_isOperand_57 : decode b_X_isOperand 57 = .ok (.ireturn, 1) := by decide +kernel
theorem d_X_isExpression_0 : decode b_X_isExpression 0 = .ok (.iconst 1, 1) := by decide +kernel
theorem d_X_isExpression_1 : decode b_X_isExpression 1 = .ok (.istore_n 3, 1) := by decide +kernel
theorem d_X_isExpression_2 : decode b_X_isExpression 2 = .ok (.iconst 0, 1) := by decide +kernel
theorem d_X_isExpression_3 : decode b_X_isExpression 3 = .ok (.istore 4, 2) := by decide +kernel
theorem d_X_isExpression_5 : decode b_X_isExpression 5 = .ok (.iconst 0, 1) := by decide +kernel
theorem d_X_isExpression_6 : decode b_X_isExpression 6 = .ok (.istore 5, 2) := by decide +kernel
theorem d_X_isExpression_8 : decode b_X_isExpression 8 = .ok (.iload 5, 2) := by decide +kernel
theorem d_X_isExpression_10 : decode b_X_isExpression 10 = .ok (.aload_n 1, 1) := by decide +kernel
theorem d_X_isExpression_11 : decode b_X_isExpression 11 = .ok (.invokevirtual 68, 3) := by decide +kernel
theorem d_X_isExpression_14 : decode b_X_isExpression 14 = .ok (.if_icmp .ge 126, 3) := by decide +kernel
theorem d_X_isExpression_17 : decode b_X_isExpression 17 = .ok (.aload_n 1, 1) := by decide +kernel
theorem d_X_isExpression_18 : decode b_X_isExpression 18 = .ok (.iload 5, 2) := by decide +kernel
theorem d_X_isExpression_20 : decode b_X_isExpression 20 = .ok (.invokevirtual 87, 3) := by decide +kernel
theorem d_X_isExpression_23 : decode b_X_isExpression 23 = .ok (.istore 6, 2) := by decide +kernel
theorem d_X_isExpression_25 : decode b_X_isExpression 25 = .ok (.iload_n 3, 1) := by decide +kernel
theorem d_X_isExpression_26 : decode b_X_isExpression 26 = .ok (.ifCond .eq 60, 3) := by decide +kernel
theorem d_X_isExpression_29 : decode b_X_isExpression 29 = .ok (.aload_n 0, 1) := by decide +kernel
theorem d_X_isExpression_30 : decode b_X_isExpression 30 = .ok (.aload_n 1, 1) := by decide +kernel
theorem d_X_isExpression_31 : decode b_X_isExpression 31 = .ok (.iload 5, 2) := by decide +kernel
theorem d_X_isExpression_33 : decode b_X_isExpression 33 = .ok (.invokevirtual 90, 3) := by decide +kernel
theorem d_X_isExpression_36 : decode b_X_isExpression 36 = .ok (.ifCond .ne 7, 3) := by decide +kernel
theorem d_X_isExpression_39 : decode b_X_isExpression 39 = .ok (.iconst 1, 1) := by decide +kernel
theorem d_X_isExpression_40 : decode b_X_isExpression 40 = .ok (.goto 4, 3) := by decide +kernel
theorem d_X_isExpression_43 : decode b_X_isExpression 43 = .ok (.iconst 0, 1) := by decide +kernel
theorem d_X_isExpression_44 : decode b_X_isExpression 44 = .ok (.istore_n 3, 1) := by decide +kernel
theorem d_X_isExpression_45 : decode b_X_isExpression 45 = .ok (.iload_n 3, 1) := by decide +kernel
theorem d_X_isExpression_46 : decode b_X_isExpression 46 = .ok (.ifCond .eq 20, 3) := by decide +kernel
theorem d_X_isExpression_49 : decode b_X_isExpression 49 = .ok (.iload 6, 2) := by decide +kernel
theorem d_X_isExpression_51 : decode b_X_isExpression 51 = .ok (.bipush 40, 2) := by decide +kernel
theorem d_X_isExpression_53 : decode b_X_isExpression 53 = .ok (.if_icmp .eq 13, 3) := by decide +kernel
theorem d_X_isExpression_56 : decode b_X_isExpression 56 = .ok (.iload 6, 2) := by decide +kernel
theorem d_X_isExpression_58 : decode b_X_isExpression 58 = .ok (.invokestatic 94, 3) := by decide +kernel
theorem d_X_isExpression_61 : decode b_X_isExpression 61 = .ok (.ifCond .ne 5, 3) := by decide +kernel
theorem d_X_isExpression_64 : decode b_X_isExpression 64 = .ok (.iconst 0, 1) := by decide +kernel
theorem d_X_isExpression_65 : decode b_X_isExpression 65 = .ok (.ireturn, 1) := by decide +kernel
theorem d_X_isExpression_66 : decode b_X_isExpression 66 = .ok (.iload 4, 2) := by decide +kernel
theorem d_X_isExpression_68 : decode b_X_isExpression 68 = .ok (.iload 6, 2) := by decide +kernel
theorem d_X_isExpression_70 : decode b_X_isExpression 70 = .ok (.bipush 40, 2) := by decide +kernel
theorem d_X_isExpression_72 : decode b_X_isExpression 72 = .ok (.if_icmp .ne 7, 3) := by decide +kernel
theorem d_X_isExpression_75 : decode b_X_isExpression 75 = .ok (.iconst 1, 1) := by decide +kernel
theorem d_X_isExpression_76 : decode b_X_isExpression 76 = .ok (.goto 4, 3) := by decide +kernel
theorem d_X_isExpression_79 : decode b_X_isExpression 79 = .ok (.iconst 0, 1) := by decide +kernel
theorem d_X_isExpression_80 : decode b_X_isExpression 80 = .ok (.iadd, 1) := by decide +kernel
theorem d_X_isExpression_81 : decode b_X_isExpression 81 = .ok (.istore 4, 2) := by decide +kernel
theorem d_X_isExpression_83 : decode b_X_isExpression 83 = .ok (.goto 51, 3) := by decide +kernel
theorem d_X_isExpression_86 : decode b_X_isExpression 86 = .ok (.iload 6, 2) := by decide +kernel
theorem d_X_isExpression_88 : decode b_X_isExpression 88 = .ok (.bipush 41, 2) := by decide +kernel
theorem d_X_isExpression_90 : decode b_X_isExpression 90 = .ok (.if_icmp .ne 13, 3) := by decide +kernel
theorem d_X_isExpression_93 : decode b_X_isExpression 93 = .ok (.iinc 4 (-1), 3) := by decide +kernel
theorem d_X_isExpression_96 : decode b_X_isExpression 96 = .ok (.iload 4, 2) := by decide +kernel
theorem d_X_isExpression_98 : decode b_X_isExpression 98 = .ok (.ifCond .ge 36, 3) := by decide +kernel
theorem d_X_isExpression_101 : decode b_X_isExpression 101 = .ok (.iconst 0, 1) := by decide +kernel
theorem d_X_isExpression_102 : decode b_X_isExpression 102 = .ok (.ireturn, 1) := by decide +kernel
theorem d_X_isExpression_103 : decode b_X_isExpression 103 = .ok (.iload_n 2, 1) := by decide +kernel
theorem d_X_isExpression_104 : decode b_X_isExpression 104 = .ok (.ifCond .eq 13, 3) := by decide +kernel
theorem d_X_isExpression_107 : decode b_X_isExpression 107 = .ok (.iload 4, 2) := by decide +kernel
theorem d_X_isExpression_109 : decode b_X_isExpression 109 = .ok (.ifCond .ne 8, 3) := by decide +kernel
theorem d_X_isExpression_112 : decode b_X_isExpression 112 = .ok (.bipush 6, 2) := by decide +kernel
theorem d_X_isExpression_114 : decode b_X_isExpression 114 = .ok (.goto 4, 3) := by decide +kernel
theorem d_X_isExpression_117 : decode b_X_isExpression 117 = .ok (.iconst 1, 1) := by decide +kernel
theorem d_X_isExpression_118 : decode b_X_isExpression 118 = .ok (.istore 7, 2) := by decide +kernel
theorem d_X_isExpression_120 : decode b_X_isExpression 120 = .ok (.iload 6, 2) := by decide +kernel
theorem d_X_isExpression_122 : decode b_X_isExpression 122 = .ok (.invokestatic 98, 3) := by decide +kernel
theorem d_X_isExpression_125 : decode b_X_isExpression 125 = .ok (.iload 7, 2) := by decide +kernel
theorem d_X_isExpression_127 : decode b_X_isExpression 127 = .ok (.if_icmp .ge 5, 3) := by decide +kernel
theorem d_X_isExpression_130 : decode b_X_isExpression 130 = .ok (.iconst 0, 1) := by decide +kernel
theorem d_X_isExpression_131 : decode b_X_isExpression 131 = .ok (.ireturn, 1) := by decide +kernel
theorem d_X_isExpression_132 : decode b_X_isExpression 132 = .ok (.iconst 1, 1) := by decide +kernel
theorem d_X_isExpression_133 : decode b_X_isExpression 133 = .ok (.istore_n 3, 1) := by decide +kernel
theorem d_X_isExpression_134 : decode b_X_isExpression 134 = .ok (.iinc 5 1, 3) := by decide +kernel
theorem d_X_isExpression_137 : decode b_X_isExpression 137 = .ok (.goto (-129), 3) := by decide +kernel
theorem d_X_isExpression_140 : decode b_X_isExpression 140 = .ok (.iload_n 3, 1) := by decide +kernel
theorem d_X_isExpression_141 : decode b_X_isExpression 141 = .ok (.ifCond .ne 12, 3) := by decide +kernel
theorem d_X_isExpression_144 : decode b_X_isExpression 144 = .ok (.iload 4, 2) := by decide +kernel
theorem d_X_isExpression_146 : decode b_X_isExpression 146 = .ok (.ifCond .ne 7, 3) := by decide +kernel
theorem d_X_isExpression_149 : decode b_X_isExpression 149 = .ok (.iconst 1, 1) := by decide +kernel
theorem d_X_isExpression_150 : decode b_X_isExpression 150 = .ok (.goto 4, 3) := by decide +kernel
theorem d_X_isExpression_153 : decode b_X_isExpression 153 = .ok (.iconst 0, 1) := by decide +kernel
theorem d_X_isExpression_154 : decode b_X_isExpression 154 = .ok (.ireturn, 1) := by decide +kernel
theorem d_X_pushOperand_0 : decode b_X_pushOperand 0 = .ok (.aload_n 0, 1) := by decide +kernel
theorem d_X_pushOperand_1 : decode b_X_pushOperand 1 = .ok (.iload_n 2, 1) := by decide +kernel
theorem d_X_pushOperand_2 : decode b_X_pushOperand 2 = .ok (.invokevirtual 101, 3) := by decide +kernel
theorem d_X_pushOperand_5 : decode b_X_pushOperand 5 = .ok (.astore_n 3, 1) := by decide +kernel
theorem d_X_pushOperand_6 : decode b_X_pushOperand 6 = .ok (.aload_n 3, 1) := by decide +kernel
theorem d_X_pushOperand_7 : decode b_X_pushOperand 7 = .ok (.ifnull 21, 3) := by decide +kernel
theorem d_X_pushOperand_10 : decode b_X_pushOperand 10 = .ok (.aload_n 0, 1) := by decide +kernel
theorem d_X_pushOperand_11 : decode b_X_pushOperand 11 = .ok (.getfield 28, 3) := by decide +kernel
theorem d_X_pushOperand_14 : decode b_X_pushOperand 14 = .ok (.aload_n 3, 1) := by decide +kernel
theorem d_X_pushOperand_15 : decode b_X_pushOperand 15 = .ok (.getfield 126, 3) := by decide +kernel
theorem d_X_pushOperand_18 : decode b_X_pushOperand 18 = .ok (.aload_n 3, 1) := by decide +kernel
theorem d_X_pushOperand_19 : decode b_X_pushOperand 19 = .ok (.getfield 130, 3) := by decide +kernel
theorem d_X_pushOperand_22 : decode b_X_pushOperand 22 = .ok (.invokevirtual 133, 3) := by decide +kernel
theorem d_X_pushOperand_25 : decode b_X_pushOperand 25 = .ok (.goto 39, 3) := by decide +kernel
theorem d_X_pushOperand_28 : decode b_X_pushOperand 28 = .ok (.aload_n 1, 1) := by decide +kernel
theorem d_X_pushOperand_29 : decode b_X_pushOperand 29 = .ok (.iload_n 2, 1) := by decide +kernel
theorem d_X_pushOperand_30 : decode b_X_pushOperand 30 = .ok (.invokevirtual 87, 3) := by decide +kernel
theorem d_X_pushOperand_33 : decode b_X_pushOperand 33 = .ok (.bipush 36, 2) := by decide +kernel
theorem d_X_pushOperand_35 : decode b_X_pushOperand 35 = .ok (.if_icmp .ne 16, 3) := by decide +kernel
theorem d_X_pushOperand_38 : decode b_X_pushOperand 38 = .ok (.aload_n 0, 1) := by decide +kernel
theorem d_X_pushOperand_39 : decode b_X_pushOperand 39 = .ok (.getfield 28, 3) := by decide +kernel
theorem d_X_pushOperand_42 : decode b_X_pushOperand 42 = .ok (.lconst 0, 1) := by decide +kernel
theorem d_X_pushOperand_43 : decode b_X_pushOperand 43 = .ok (.bipush (-2), 2) := by decide +kernel
theorem d_X_pushOperand_45 : decode b_X_pushOperand 45 = .ok (.invokevirtual 133, 3) := by decide +kernel
theorem d_X_pushOperand_48 : decode b_X_pushOperand 48 = .ok (.goto 16, 3) := by decide +kernel
theorem d_X_pushOperand_51 : decode b_X_pushOperand 51 = .ok (.aload_n 0, 1) := by decide +kernel
theorem d_X_pushOperand_52 : decode b_X_pushOperand 52 = .ok (.getfield 28, 3) := by decide +kernel
theorem d_X_pushOperand_55 : decode b_X_pushOperand 55 = .ok (.aload_n 1, 1) := by decide +kernel
theorem d_X_pushOperand_56 : decode b_X_pushOperand 56 = .ok (.iload_n 2, 1) := by decide +kernel
theorem d_X_pushOperand_57 : decode b_X_pushOperand 57 = .ok (.invokevirtual 137, 3) := by decide +kernel
theorem d_X_pushOperand_60 : decode b_X_pushOperand 60 = .ok (.iconst (-1), 1) := by decide +kernel
theorem d_X_pushOperand_61 : decode b_X_pushOperand 61 = .ok (.invokevirtual 133, 3) := by decide +kernel
theorem d_X_pushOperand_64 : decode b_X_pushOperand 64 = .ok (.return_, 1) := by decide +kernel
theorem d_X_workOut_0 : decode b_X_workOut 0 = .ok (.aload_n 0, 1) := by decide +kernel
theorem d_X_workOut_1 : decode b_X_workOut 1 = .ok (.getfield 28, 3) := by decide +kernel
theorem d_X_workOut_4 : decode b_X_workOut 4 = .ok (.invokevirtual 109, 3) := by decide +kernel
theorem d_X_workOut_7 : decode b_X_workOut 7 = .ok (.aload_n 0, 1) := by decide +kernel
theorem d_X_workOut_8 : decode b_X_workOut 8 = .ok (.iconst 0, 1) := by decide +kernel
theorem d_X_workOut_9 : decode b_X_workOut 9 = .ok (.putfield 21, 3) := by decide +kernel
theorem d_X_workOut_12 : decode b_X_workOut 12 = .ok (.iconst 1, 1) := by decide +kernel
theorem d_X_workOut_13 : decode b_X_workOut 13 = .ok (.istore_n 2, 1) := by decide +kernel
theorem d_X_workOut_14 : decode b_X_workOut 14 = .ok (.iconst 0, 1) := by decide +kernel
theorem d_X_workOut_15 : decode b_X_workOut 15 = .ok (.istore_n 3, 1) := by decide +kernel
theorem d_X_workOut_16 : decode b_X_workOut 16 = .ok (.iload_n 3, 1) := by decide +kernel
theorem d_X_workOut_17 : decode b_X_workOut 17 = .ok (.aload_n 1, 1) := by decide +kernel
theorem d_X_workOut_18 : decode b_X_workOut 18 = .ok (.invokevirtual 68, 3) := by decide +kernel
theorem d_X_workOut_21 : decode b_X_workOut 21 = .ok (.if_icmp .ge 106, 3) := by decide +kernel
theorem d_X_workOut_24 : decode b_X_workOut 24 = .ok (.aload_n 1, 1) := by decide +kernel
theorem d_X_workOut_25 : decode b_X_workOut 25 = .ok (.iload_n 3, 1) := by decide +kernel
theorem d_X_workOut_26 : decode b_X_workOut 26 = .ok (.invokevirtual 87, 3) := by decide +kernel
theorem d_X_workOut_29 : decode b_X_workOut 29 = .ok (.istore 4, 2) := by decide +kernel
theorem d_X_workOut_31 : decode b_X_workOut 31 = .ok (.iload_n 2, 1) := by decide +kernel
theorem d_X_workOut_32 : decode b_X_workOut 32 = .ok (.ifCond .eq 53, 3) := by decide +kernel
theorem d_X_workOut_35 : decode b_X_workOut 35 = .ok (.aload_n 0, 1) := by decide +kernel
theorem d_X_workOut_36 : decode b_X_workOut 36 = .ok (.aload_n 1, 1) := by decide +kernel
theorem d_X_workOut_37 : decode b_X_workOut 37 = .ok (.iload_n 3, 1) := by decide +kernel
theorem d_X_workOut_38 : decode b_X_workOut 38 = .ok (.invokevirtual 90, 3) := by decide +kernel
theorem d_X_workOut_41 : decode b_X_workOut 41 = .ok (.ifCond .ne 7, 3) := by decide +kernel
theorem d_X_workOut_44 : decode b_X_workOut 44 = .ok (.iconst 1, 1) := by decide +kernel
theorem d_X_workOut_45 : decode b_X_workOut 45 = .ok (.goto 4, 3) := by decide +kernel
theorem d_X_workOut_48 : decode b_X_workOut 48 = .ok (.iconst 0, 1) := by decide +kernel
theorem d_X_workOut_49 : decode b_X_workOut 49 = .ok (.istore_n 2, 1) := by decide +kernel
theorem d_X_workOut_50 : decode b_X_workOut 50 = .ok (.iload_n 2, 1) := by decide +kernel
theorem d_X_workOut_51 : decode b_X_workOut 51 = .ok (.ifCond .eq 25, 3) := by decide +kernel
theorem d_X_workOut_54 : decode b_X_workOut 54 = .ok (.aload_n 0, 1) := by decide +kernel
theorem d_X_workOut_55 : decode b_X_workOut 55 = .ok (.iload 4, 2) := by decide +kernel
theorem d_X_workOut_57 : decode b_X_workOut 57 = .ok (.bipush 40, 2) := by decide +kernel
theorem d_X_workOut_59 : decode b_X_workOut 59 = .ok (.if_icmp .ne 8, 3) := by decide +kernel
theorem d_X_workOut_62 : decode b_X_workOut 62 = .ok (.iload 4, 2) := by decide +kernel
theorem d_X_workOut_64 : decode b_X_workOut 64 = .ok (.goto 6, 3) := by decide +kernel
theorem d_X_workOut_67 : decode b_X_workOut 67 = .ok (.iload 4, 2) := by decide +kernel
theorem d_X_workOut_69 : decode b_X_workOut 69 = .ok (.ineg, 1) := by decide +kernel
theorem d_X_workOut_70 : decode b_X_workOut 70 = .ok (.invokevirtual 112, 3) := by decide +kernel
theorem d_X_workOut_73 : decode b_X_workOut 73 = .ok (.goto 48, 3) := by decide +kernel
theorem d_X_workOut_76 : decode b_X_workOut 76 = .ok (.aload_n 0, 1) := by decide +kernel
theorem d_X_workOut_77 : decode b_X_workOut 77 = .ok (.aload_n 1, 1) := by decide +kernel
theorem d_X_workOut_78 : decode b_X_workOut 78 = .ok (.iload_n 3, 1) := by decide +kernel
theorem d_X_workOut_79 : decode b_X_workOut 79 = .ok (.invokevirtual 116, 3) := by decide +kernel
theorem d_X_workOut_82 : decode b_X_workOut 82 = .ok (.goto 39, 3) := by decide +kernel
theorem d_X_workOut_85 : decode b_X_workOut 85 = .ok (.iload 4, 2) := by decide +kernel
theorem d_X_workOut_87 : decode b_X_workOut 87 = .ok (.bipush 41, 2) := by decide +kernel
theorem d_X_workOut_89 : decode b_X_workOut 89 = .ok (.if_icmp .ne 15, 3) := by decide +kernel
theorem d_X_workOut_92 : decode b_X_workOut 92 = .ok (.aload_n 0, 1) := by decide +kernel
theorem d_X_workOut_93 : decode b_X_workOut 93 = .ok (.iconst 1, 1) := by decide +kernel
theorem d_X_workOut_94 : decode b_X_workOut 94 = .ok (.invokevirtual 120, 3) := by decide +kernel
theorem d_X_workOut_97 : decode b_X_workOut 97 = .ok (.aload_n 0, 1) := by decide +kernel
theorem d_X_workOut_98 : decode b_X_workOut 98 = .ok (.invokevirtual 123, 3) := by decide +kernel
theorem d_X_workOut_101 : decode b_X_workOut 101 = .ok (.goto 20, 3) := by decide +kernel
theorem d_X_workOut_104 : decode b_X_workOut 104 = .ok (.aload_n 0, 1) := by decide +kernel
theorem d_X_workOut_105 : decode b_X_workOut 105 = .ok (.iload 4, 2) := by decide +kernel
theorem d_X_workOut_107 : decode b_X_workOut 107 = .ok (.invokestatic 98, 3) := by decide +kernel
theorem d_X_workOut_110 : decode b_X_workOut 110 = .ok (.invokevirtual 120, 3) := by decide +kernel
theorem d_X_workOut_113 : decode b_X_workOut 113 = .ok (.aload_n 0, 1) := by decide +kernel
theorem d_X_workOut_114 : decode b_X_workOut 114 = .ok (.iload 4, 2) := by decide +kernel
theorem d_X_workOut_116 : decode b_X_workOut 116 = .ok (.invokevirtual 112, 3) := by decide +kernel
theorem d_X_workOut_119 : decode b_X_workOut 119 = .ok (.iconst 1, 1) := by decide +kernel
theorem d_X_workOut_120 : decode b_X_workOut 120 = .ok (.istore_n 2, 1) := by decide +kernel
theorem d_X_workOut_121 : decode b_X_workOut 121 = .ok (.iinc 3 1, 3) := by decide +kernel
theorem d_X_workOut_124 : decode b_X_workOut 124 = .ok (.goto (-108), 3) := by decide +kernel
theorem d_X_workOut_127 : decode b_X_workOut 127 = .ok (.aload_n 0, 1) := by decide +kernel
theorem d_X_workOut_128 : decode b_X_workOut 128 = .ok (.iconst 1, 1) := by decide +kernel
theorem d_X_workOut_129 : decode b_X_workOut 129 = .ok (.invokevirtual 120, 3) := by decide +kernel
theorem d_X_workOut_132 : decode b_X_workOut 132 = .ok (.return_, 1) := by decide +kernel
theorem d_X_lookUpNames_0 : decode b_X_lookUpNames 0 = .ok (.iconst 0, 1) := by decide +kernel
theorem d_X_lookUpNames_1 : decode b_X_lookUpNames 1 = .ok (.istore 4, 2) := by decide +kernel
theorem d_X_lookUpNames_3 : decode b_X_lookUpNames 3 = .ok (.iload 4, 2) := by decide +kernel
theorem d_X_lookUpNames_5 : decode b_X_lookUpNames 5 = .ok (.aload_n 2, 1) := by decide +kernel
theorem d_X_lookUpNames_6 : decode b_X_lookUpNames 6 = .ok (.invokevirtual 68, 3) := by decide +kernel
theorem d_X_lookUpNames_9 : decode b_X_lookUpNames 9 = .ok (.if_icmp .ge 57, 3) := by decide +kernel
theorem d_X_lookUpNames_12 : decode b_X_lookUpNames 12 = .ok (.iload 4, 2) := by decide +kernel
theorem d_X_lookUpNames_14 : decode b_X_lookUpNames 14 = .ok (.aload_n 0, 1) := by decide +kernel
theorem d_X_lookUpNames_15 : decode b_X_lookUpNames 15 = .ok (.getfield 11, 3) := by decide +kernel
theorem d_X_lookUpNames_18 : decode b_X_lookUpNames 18 = .ok (.arraylength, 1) := by decide +kernel
theorem d_X_lookUpNames_19 : decode b_X_lookUpNames 19 = .ok (.if_icmp .ge 47, 3) := by decide +kernel
theorem d_X_lookUpNames_22 : decode b_X_lookUpNames 22 = .ok (.aload_n 0, 1) := by decide +kernel
theorem d_X_lookUpNames_23 : decode b_X_lookUpNames 23 = .ok (.getfield 11, 3) := by decide +kernel
theorem d_X_lookUpNames_26 : decode b_X_lookUpNames 26 = .ok (.iload 4, 2) := by decide +kernel
theorem d_X_lookUpNames_28 : decode b_X_lookUpNames 28 = .ok (.aload_n 2, 1) := by decide +kernel
theorem d_X_lookUpNames_29 : decode b_X_lookUpNames 29 = .ok (.iload 4, 2) := by decide +kernel
theorem d_X_lookUpNames_31 : decode b_X_lookUpNames 31 = .ok (.invokevirtual 71, 3) := by decide +kernel
theorem d_X_lookUpNames_34 : decode b_X_lookUpNames 34 = .ok (.iconst 1, 1) := by decide +kernel
theorem d_X_lookUpNames_35 : decode b_X_lookUpNames 35 = .ok (.if_icmp .ne 23, 3) := by decide +kernel
theorem d_X_lookUpNames_38 : decode b_X_lookUpNames 38 = .ok (.aload_n 3, 1) := by decide +kernel
theorem d_X_lookUpNames_39 : decode b_X_lookUpNames 39 = .ok (.aload_n 1, 1) := by decide +kernel
theorem d_X_lookUpNames_40 : decode b_X_lookUpNames 40 = .ok (.aload_n 2, 1) := by decide +kernel
theorem d_X_lookUpNames_41 : decode b_X_lookUpNames 41 = .ok (.iload 4, 2) := by decide +kernel
theorem d_X_lookUpNames_43 : decode b_X_lookUpNames 43 = .ok (.invokevirtual 75, 3) := by decide +kernel
theorem d_X_lookUpNames_46 : decode b_X_lookUpNames 46 = .ok (.aload_n 2, 1) := by decide +kernel
theorem d_X_lookUpNames_47 : decode b_X_lookUpNames 47 = .ok (.iload 4, 2) := by decide +kernel
theorem d_X_lookUpNames_49 : decode b_X_lookUpNames 49 = .ok (.invokevirtual 78, 3) := by decide +kernel
theorem d_X_lookUpNames_52 : decode b_X_lookUpNames 52 = .ok (.invokevirtual 81, 3) := by decide +kernel
theorem d_X_lookUpNames_55 : decode b_X_lookUpNames 55 = .ok (.goto 4, 3) := by decide +kernel
theorem d_X_lookUpNames_58 : decode b_X_lookUpNames 58 = .ok (.aconst_null, 1) := by decide +kernel
theorem d_X_lookUpNames_59 : decode b_X_lookUpNames 59 = .ok (.aastore, 1) := by decide +kernel
theorem d_X_lookUpNames_60 : decode b_X_lookUpNames 60 = .ok (.iinc 4 1, 3) := by decide +kernel
theorem d_X_lookUpNames_63 : decode b_X_lookUpNames 63 = .ok (.goto (-60), 3) := by decide +kernel
theorem d_X_lookUpNames_66 : decode b_X_lookUpNames 66 = .ok (.return_, 1) := by decide +kernel
theorem d_X_findFault_0 : decode b_X_findFault 0 = .ok (.aload_n 2, 1) := by decide +kernel
theorem d_X_findFault_1 : decode b_X_findFault 1 = .ok (.invokevirtual 32, 3) := by decide +kernel
theorem d_X_findFault_4 : decode b_X_findFault 4 = .ok (.ifCond .ne 5, 3) := by decide +kernel
theorem d_X_findFault_7 : decode b_X_findFault 7 = .ok (.iconst 1, 1) := by decide +kernel
theorem d_X_findFault_8 : decode b_X_findFault 8 = .ok (.ireturn, 1) := by decide +kernel
theorem d_X_findFault_9 : decode b_X_findFault 9 = .ok (.aload_n 0, 1) := by decide +kernel
theorem d_X_findFault_10 : decode b_X_findFault 10 = .ok (.aload_n 1, 1) := by decide +kernel
theorem d_X_findFault_11 : decode b_X_findFault 11 = .ok (.aload_n 2, 1) := by decide +kernel
theorem d_X_findFault_12 : decode b_X_findFault 12 = .ok (.aload_n 3, 1) := by decide +kernel
theorem d_X_findFault_13 : decode b_X_findFault 13 = .ok (.invokevirtual 38, 3) := by decide +kernel
theorem d_X_findFault_16 : decode b_X_findFault 16 = .ok (.aload_n 0, 1) := by decide +kernel
theorem d_X_findFault_17 : decode b_X_findFault 17 = .ok (.aload_n 2, 1) := by decide +kernel
theorem d_X_findFault_18 : decode b_X_findFault 18 = .ok (.iload 4, 2) := by decide +kernel
theorem d_X_findFault_20 : decode b_X_findFault 20 = .ok (.invokevirtual 42, 3) := by decide +kernel
theorem d_X_findFault_23 : decode b_X_findFault 23 = .ok (.ifCond .ne 5, 3) := by decide +kernel
theorem d_X_findFault_26 : decode b_X_findFault 26 = .ok (.iconst 2, 1) := by decide +kernel
theorem d_X_findFault_27 : decode b_X_findFault 27 = .ok (.ireturn, 1) := by decide +kernel
theorem d_X_findFault_28 : decode b_X_findFault 28 = .ok (.aload_n 0, 1) := by decide +kernel
theorem d_X_findFault_29 : decode b_X_findFault 29 = .ok (.aload_n 2, 1) := by decide +kernel
theorem d_X_findFault_30 : decode b_X_findFault 30 = .ok (.invokevirtual 46, 3) := by decide +kernel
theorem d_X_findFault_33 : decode b_X_findFault 33 = .ok (.ifCond .ne 5, 3) := by decide +kernel
theorem d_X_findFault_36 : decode b_X_findFault 36 = .ok (.iconst 3, 1) := by decide +kernel
theorem d_X_findFault_37 : decode b_X_findFault 37 = .ok (.ireturn, 1) := by decide +kernel
theorem d_X_findFault_38 : decode b_X_findFault 38 = .ok (.aload_n 0, 1) := by decide +kernel
theorem d_X_findFault_39 : decode b_X_findFault 39 = .ok (.aload_n 2, 1) := by decide +kernel
theorem d_X_findFault_40 : decode b_X_findFault 40 = .ok (.invokevirtual 50, 3) := by decide +kernel
theorem d_X_findFault_43 : decode b_X_findFault 43 = .ok (.aload_n 0, 1) := by decide +kernel
theorem d_X_findFault_44 : decode b_X_findFault 44 = .ok (.getfield 28, 3) := by decide +kernel
theorem d_X_findFault_47 : decode b_X_findFault 47 = .ok (.invokevirtual 54, 3) := by decide +kernel
theorem d_X_findFault_50 : decode b_X_findFault 50 = .ok (.ifCond .eq 7, 3) := by decide +kernel
theorem d_X_findFault_53 : decode b_X_findFault 53 = .ok (.iconst 4, 1) := by decide +kernel
theorem d_X_findFault_54 : decode b_X_findFault 54 = .ok (.goto 4, 3) := by decide +kernel
theorem d_X_findFault_57 : decode b_X_findFault 57 = .ok (.iconst 0, 1) := by decide +kernel
theorem d_X_findFault_58 : decode b_X_findFault 58 = .ok (.ireturn, 1) := by decide +kernel
theorem wb_312 : Cond.methodLink R_X 87 y_T_signOf ∈ WB := wbm (i := 742) (by decide +kernel) rfl
theorem wb_313 : Cond.code y_T_signOf b_T_signOf 2 (some .int) ∈ WB := wbm (i := 745) (by decide +kernel) rfl
theorem wb_314 : Cond.instanceMethod y_T_signOf ∈ WB := wbm (i := 743) (by decide +kernel) rfl
theorem wb_315 : Cond.selects R_T y_T_signOf y_T_signOf ∈ WB := wbm (i := 744) (by decide +kernel) rfl
theorem wb_316 : Cond.methodLink R_X 90 y_X_isOperand ∈ WB := wbm (i := 750) (by decide +kernel) rfl
theorem wb_317 : Cond.code y_X_isOperand b_X_isOperand 5 (some .boolean) ∈ WB := wbm (i := 753) (by decide +kernel) rfl
theorem wb_318 : Cond.instanceMethod y_X_isOperand ∈ WB := wbm (i := 752) (by decide +kernel) rfl
theorem wb_319 : Cond.selects R_X y_X_isOperand y_X_isOperand ∈ WB := wbm (i := 13) (by decide +kernel) rfl
theorem wb_320 : Cond.methodLink R_X 94 y_X_isPrefix ∈ WB := wbm (i := 758) (by decide +kernel) rfl
theorem wb_321 : Cond.code y_X_isPrefix b_X_isPrefix 1 (some .boolean) ∈ WB := wbm (i := 760) (by decide +kernel) rfl
theorem wb_322 : Cond.static y_X_isPrefix ∈ WB := wbm (i := 759) (by decide +kernel) rfl
theorem wb_323 : Cond.methodLink R_X 137 y_T_worthOf ∈ WB := wbm (i := 788) (by decide +kernel) rfl
theorem wb_324 : Cond.methodLink R_X 133 y_V_push ∈ WB := wbm (i := 784) (by decide +kernel) rfl
theorem wb_325 : Cond.code y_V_push b_V_push 4 none ∈ WB := wbm (i := 787) (by decide +kernel) rfl
theorem wb_326 : Cond.instanceMethod y_V_push ∈ WB := wbm (i := 785) (by decide +kernel) rfl
theorem wb_327 : Cond.selects R_V y_V_push y_V_push ∈ WB := wbm (i := 786) (by decide +kernel) rfl
theorem wb_328 : Cond.methodLink R_X 109 y_V_clear ∈ WB := wbm (i := 772) (by decide +kernel) rfl
theorem wb_329 : Cond.code y_V_clear b_V_clear 1 none ∈ WB := wbm (i := 775) (by decide +kernel) rfl
theorem wb_330 : Cond.instanceMethod y_V_clear ∈ WB := wbm (i := 773) (by decide +kernel) rfl
theorem wb_331 : Cond.selects R_V y_V_clear y_V_clear ∈ WB := wbm (i := 774) (by decide +kernel) rfl
theorem wb_332 : Cond.methodLink R_X 120 y_X_applyWaiting ∈ WB := wbm (i := 789) (by decide +kernel) rfl
theorem wb_333 : Cond.code y_X_applyWaiting b_X_applyWaiting 4 none ∈ WB := wbm (i := 792) (by decide +kernel) rfl
theorem wb_334 : Cond.instanceMethod y_X_applyWaiting ∈ WB := wbm (i := 791) (by decide +kernel) rfl
theorem wb_335 : Cond.selects R_X y_X_applyWaiting y_X_applyWaiting ∈ WB := wbm (i := 19) (by decide +kernel) rfl
theorem wb_336 : Cond.methodLink R_X 112 y_X_letWait ∈ WB := wbm (i := 776) (by decide +kernel) rfl
theorem wb_337 : Cond.code y_X_letWait b_X_letWait 2 none ∈ WB := wbm (i := 779) (by decide +kernel) rfl
theorem wb_338 : Cond.instanceMethod y_X_letWait ∈ WB := wbm (i := 778) (by decide +kernel) rfl
theorem wb_339 : Cond.selects R_X y_X_letWait y_X_letWait ∈ WB := wbm (i := 17) (by decide +kernel) rfl
theorem wb_340 : Cond.methodLink R_X 123 y_X_dropBracket ∈ WB := wbm (i := 827) (by decide +kernel) rfl
theorem wb_341 : Cond.code y_X_dropBracket b_X_dropBracket 1 none ∈ WB := wbm (i := 830) (by decide +kernel) rfl
theorem wb_342 : Cond.instanceMethod y_X_dropBracket ∈ WB := wbm (i := 829) (by decide +kernel) rfl
theorem wb_343 : Cond.selects R_X y_X_dropBracket y_X_dropBracket ∈ WB := wbm (i := 26) (by decide +kernel) rfl
theorem wb_344 : Cond.methodLink R_X 116 y_X_pushOperand ∈ WB := wbm (i := 780) (by decide +kernel) rfl
theorem wb_345 : Cond.code y_X_pushOperand b_X_pushOperand 4 none ∈ WB := wbm (i := 783) (by decide +kernel) rfl
theorem wb_346 : Cond.instanceMethod y_X_pushOperand ∈ WB := wbm (i := 782) (by decide +kernel) rfl
theorem wb_347 : Cond.selects R_X y_X_pushOperand y_X_pushOperand ∈ WB := wbm (i := 18) (by decide +kernel) rfl
theorem wb_348 : Cond.methodLink R_X 75 y_T_beginOf ∈ WB := wbm (i := 735) (by decide +kernel) rfl
theorem wb_349 : Cond.code y_T_beginOf b_T_beginOf 2 (some .int) ∈ WB := wbm (i := 321) (by decide +kernel) rfl
theorem wb_350 : Cond.instanceMethod y_T_beginOf ∈ WB := wbm (i := 319) (by decide +kernel) rfl
theorem wb_351 : Cond.selects R_T y_T_beginOf y_T_beginOf ∈ WB := wbm (i := 320) (by decide +kernel) rfl
theorem wb_352 : Cond.methodLink R_X 78 y_T_endOf ∈ WB := wbm (i := 736) (by decide +kernel) rfl
theorem wb_353 : Cond.code y_T_endOf b_T_endOf 2 (some .int) ∈ WB := wbm (i := 325) (by decide +kernel) rfl
theorem wb_354 : Cond.instanceMethod y_T_endOf ∈ WB := wbm (i := 323) (by decide +kernel) rfl
theorem wb_355 : Cond.selects R_T y_T_endOf y_T_endOf ∈ WB := wbm (i := 324) (by decide +kernel) rfl
theorem wb_356 : Cond.methodLink R_X 81 y_K_find ∈ WB := wbm (i := 737) (by decide +kernel) rfl
theorem wb_357 : Cond.code y_K_find b_K_find 6 (some (.object "ExpressionReader$Name")) ∈ WB := wbm (i := 333) (by decide +kernel) rfl
theorem wb_358 : Cond.instanceMethod y_K_find ∈ WB := wbm (i := 331) (by decide +kernel) rfl
theorem wb_359 : Cond.selects R_K y_K_find y_K_find ∈ WB := wbm (i := 332) (by decide +kernel) rfl
theorem wb_360 : Cond.initialized R_K ∈ WB := wbm (i := 53) (by decide +kernel) rfl
theorem wb_361 : Cond.methodLink R_X 32 y_T_areSound ∈ WB := wbm (i := 722) (by decide +kernel) rfl
theorem wb_362 : Cond.code y_T_areSound b_T_areSound 1 (some .boolean) ∈ WB := wbm (i := 725) (by decide +kernel) rfl
theorem wb_363 : Cond.instanceMethod y_T_areSound ∈ WB := wbm (i := 723) (by decide +kernel) rfl
theorem wb_364 : Cond.selects R_T y_T_areSound y_T_areSound ∈ WB := wbm (i := 724) (by decide +kernel) rfl
theorem wb_365 : Cond.methodLink R_X 38 y_X_lookUpNames ∈ WB := wbm (i := 726) (by decide +kernel) rfl
theorem wb_366 : Cond.code y_X_lookUpNames b_X_lookUpNames 5 none ∈ WB := wbm (i := 729) (by decide +kernel) rfl
theorem wb_367 : Cond.instanceMethod y_X_lookUpNames ∈ WB := wbm (i := 728) (by decide +kernel) rfl
theorem wb_368 : Cond.selects R_X y_X_lookUpNames y_X_lookUpNames ∈ WB := wbm (i := 11) (by decide +kernel) rfl
theorem wb_369 : Cond.methodLink R_X 42 y_X_isExpression ∈ WB := wbm (i := 738) (by decide +kernel) rfl
theorem wb_370 : Cond.code y_X_isExpression b_X_isExpression 8 (some .boolean) ∈ WB := wbm (i := 741) (by decide +kernel) rfl
theorem wb_371 : Cond.instanceMethod y_X_isExpression ∈ WB := wbm (i := 740) (by decide +kernel) rfl
theorem wb_372 : Cond.selects R_X y_X_isExpression y_X_isExpression ∈ WB := wbm (i := 12) (by decide +kernel) rfl
theorem wb_373 : Cond.methodLink R_X 46 y_X_areNamesKnown ∈ WB := wbm (i := 764) (by decide +kernel) rfl
theorem wb_374 : Cond.code y_X_areNamesKnown b_X_areNamesKnown 3 (some .boolean) ∈ WB := wbm (i := 767) (by decide +kernel) rfl
theorem wb_375 : Cond.instanceMethod y_X_areNamesKnown ∈ WB := wbm (i := 766) (by decide +kernel) rfl
theorem wb_376 : Cond.selects R_X y_X_areNamesKnown y_X_areNamesKnown ∈ WB := wbm (i := 15) (by decide +kernel) rfl
theorem wb_377 : Cond.methodLink R_X 50 y_X_workOut ∈ WB := wbm (i := 768) (by decide +kernel) rfl
theorem wb_378 : Cond.code y_X_workOut b_X_workOut 5 none ∈ WB := wbm (i := 771) (by decide +kernel) rfl
theorem wb_379 : Cond.instanceMethod y_X_workOut ∈ WB := wbm (i := 770) (by decide +kernel) rfl
theorem wb_380 : Cond.selects R_X y_X_workOut y_X_workOut ∈ WB := wbm (i := 16) (by decide +kernel) rfl
theorem wb_381 : Cond.methodLink R_X 54 y_V_areOdd ∈ WB := wbm (i := 831) (by decide +kernel) rfl
theorem wb_382 : Cond.code y_V_areOdd b_V_areOdd 1 (some .boolean) ∈ WB := wbm (i := 834) (by decide +kernel) rfl
theorem wb_383 : Cond.instanceMethod y_V_areOdd ∈ WB := wbm (i := 832) (by decide +kernel) rfl
theorem wb_384 : Cond.selects R_V y_V_areOdd y_V_areOdd ∈ WB := wbm (i := 833) (by decide +kernel) rfl
theorem nl_1 : Cond.fieldLinkNest R_X 105 R_N "barred" "Z" R_R ∈ NL := nlm (i := 653) (by decide +kernel) rfl
theorem nl_2 : Cond.fieldLinkNest R_X 126 R_N "worth" "J" R_R ∈ NL := nlm (i := 655) (by decide +kernel) rfl
theorem nl_3 : Cond.fieldLinkNest R_X 130 R_N "where" "I" R_R ∈ NL := nlm (i := 658) (by decide +kernel) rfl
def f_X_isOperand (xm : Nat → Option Nat) (tn : Int32) (tk : Nat → Int32) (tw : Nat → Int64) (ns : List NmR) (p1 : Int32) : Option (Int32) := (f_T_kindOf tn tk p1).bind (fun o_1 => if o_1 = (1 : Int32) then (f_X_meaningOf xm p1).bind (fun o_6 => oc o_6 (some ((1 : Int32))) (fun z_7 => (nsg ns z_7).bind (fun r_8 => if r_8.2.2.2.2.1 = (0 : Int32) then some ((1 : Int32)) else some ((0 : Int32))))) else if o_1 = (2 : Int32) then some ((1 : Int32)) else (f_T_signOf tn tk tw p1).bind (fun o_4 => if o_4 = (36 : Int32) then some ((1 : Int32)) else some ((0 : Int32))))
set_option maxHeartbeats 4000000 in
set_option maxRecDepth 100000 in
theorem c_X_isOperand (l : Launch) (dC : Nat → ClassId) (dI : Nat → Nat → Nat) (aX aM aY aV aC aP aO aT aK aG aE aW : Nat) (cM cK cW cB : ClassId) (sz : Nat) (xn : Int32) (xm : Nat → Option Nat) (tn : Int32) (ts : Int32) (tk : Nat → Int32) (tw : Nat → Int64) (ns : List NmR) (p1 : Int32) (o : Int32) (hf : f_X_isOperand xm tn tk tw ns p1 = some o) : Met l y_X_isOperand (w_X_isOperand) ({ frames := 3, cells := 0, slots := 0, locals := 63 }) (va_Pc [.ref aX, .ref aT, .int p1] (fun U => U.heap.size = sz ∧ va_P (dC, dI) vwCl ([(aX, .inr (5, [.ref aM, .ref aY, .int xn, .ref aV])), (aM, .inl (cM, 1024, .inr (.inr (.inr (.inr xm))))), (aT, .inr (2, [.ref aK, .ref aG, .ref aE, .ref aW, .int tn, .int ts])), (aK, .inl (cK, 1024, .inl tk)), (aW, .inl (cW, 1024, .inr (.inl tw)))] ++ np cB ns) U.heap ∧ va_K (dC, dI) vwCl [(cM, (.object "ExpressionReader$Name")), (cK, .byte), (cW, .long), (cB, .byte)] U ∧ va_D (fun _ => True) ([(aX, .inr (5, [.ref aM, .ref aY, .int xn, .ref aV])), (aM, .inl (cM, 1024, .inr (.inr (.inr (.inr xm))))), (aT, .inr (2, [.ref aK, .ref aG, .ref aE, .ref aW, .int tn, .int ts])), (aK, .inl (cK, 1024, .inl tk)), (aW, .inl (cW, 1024, .inr (.inl tw)))] ++ np cB ns) ∧ NW U)) (va_Qi (fun (r : Int32) (_ : Unit) => r = o ∧ narrow .boolean (.int r) = .int r) (fun _ t => va_P (dC, dI) vwCl ([(aX, .inr (5, [.ref aM, .ref aY, .int xn, .ref aV])), (aM, .inl (cM, 1024, .inr (.inr (.inr (.inr xm))))), (aT, .inr (2, [.ref aK, .ref aG, .ref aE, .ref aW, .int tn, .int ts])), (aK, .inl (cK, 1024, .inl tk)), (aW, .inl (cW, 1024, .inr (.inl tw)))] ++ np cB ns) t.heap ∧ va_K (dC, dI) vwCl [(cM, (.object "ExpressionReader$Name")), (cK, .byte), (cW, .long), (cB, .byte)] t ∧ va_D (va_A ([(aX, .inr (5, [.ref aM, .ref aY, .int xn, .ref aV])), (aM, .inl (cM, 1024, .inr (.inr (.inr (.inr xm))))), (aT, .inr (2, [.ref aK, .ref aG, .ref aE, .ref aW, .int tn, .int ts])), (aK, .inl (cK, 1024, .inl tk)), (aW, .inl (cW, 1024, .inr (.inl tw)))] ++ np cB ns) sz) ([(aX, .inr (5, [.ref aM, .ref aY, .int xn, .ref aV])), (aM, .inl (cM, 1024, .inr (.inr (.inr (.inr xm))))), (aT, .inr (2, [.ref aK, .ref aG, .ref aE, .ref aW, .int tn, .int ts])), (aK, .inl (cK, 1024, .inl tk)), (aW, .inl (cW, 1024, .inr (.inl tw)))] ++ np cB ns)) (va_A ([(aX, .inr (5, [.ref aM, .ref aY, .int xn, .ref aV])), (aM, .inl (cM, 1024, .inr (.inr (.inr (.inr xm))))), (aT, .inr (2, [.ref aK, .ref aG, .ref aE, .ref aW, .int tn, .int ts])), (aK, .inl (cK, 1024, .inl tk)), (aW, .inl (cW, 1024, .inr (.inl tw)))] ++ np cB ns) sz)) 0 0 (va_A ([(aX, .inr (5, [.ref aM, .ref aY, .int xn, .ref aV])), (aM, .inl (cM, 1024, .inr (.inr (.inr (.inr xm))))), (aT, .inr (2, [.ref aK, .ref aG, .ref aE, .ref aW, .int tn, .int ts])), (aK, .inl (cK, 1024, .inl tk)), (aW, .inl (cW, 1024, .inr (.inl tw)))] ++ np cB ns) sz) := by
  refine Met.ofW (cc := b_X_isOperand) (maxL := 5) (ret := (some .boolean)) (by decide) rfl ?_
  intro p e s m args below meth c s₁ B hml hv
  obtain ⟨rfl, hsz, hP, hK, hD0, hN⟩ := hv
  have hx := B.exec
  have hb := B.bytes
  have hr := B.returns
  have hts : ∀ w ∈ WB, w.before _ s = true := fun w h => atoms_spec (ws := w_X_isOperand) B.pre w (List.mem_cons_of_mem _ h)
  have hown : s.vm.findClass R_X = some m.cls := findClass_of_methodNamed B.named
  have hlocks := B.notSynchronized
  subst hsz
  have hD := hD0.self (sz := s.heap.size)
  generalize hAe : va_A ([(aX, .inr (5, [.ref aM, .ref aY, .int xn, .ref aV])), (aM, .inl (cM, 1024, .inr (.inr (.inr (.inr xm))))), (aT, .inr (2, [.ref aK, .ref aG, .ref aE, .ref aW, .int tn, .int ts])), (aK, .inl (cK, 1024, .inl tk)), (aW, .inl (cW, 1024, .inr (.inl tw)))] ++ np cB ns) s.heap.size = A at hD ⊢
  have hA : ∀ q : Nat, s.heap.size ≤ q → A q := fun q h => by rw [← hAe]; exact Or.inr h
  have hS : va_S A s.heap s.heap [] := va_S.rf
  have hP : va_P (dC, dI) vwCl ([(aX, .inr (5, [.ref aM, .ref aY, .int xn, .ref aV])), (aM, .inl (cM, 1024, .inr (.inr (.inr (.inr xm))))), (aT, .inr (2, [.ref aK, .ref aG, .ref aE, .ref aW, .int tn, .int ts])), (aK, .inl (cK, 1024, .inl tk)), (aW, .inl (cW, 1024, .inr (.inl tw)))] ++ np cB ns) s.heap := hP
  have hl := lv_entry [.ref aX, .ref aT, .int p1] (n := 5) (Nat.le_of_ble_eq_true rfl)
  rw [lg_entry_eq]
  generalize (lg_sl [.ref aX, .ref aT, .int p1] ++ List.replicate (5 - (lg_sl [.ref aX, .ref aT, .int p1]).length) Slot.unset).toArray = ls at hl ⊢
  have hl : lv_has ls 5 [(0, .ref aX), (1, .ref aT), (2, .int p1)] := hl
  rw [f_X_isOperand] at hf
  refine lv_aload_n hx hb d_X_isOperand_0 rfl (lv_at hl 1 rfl) ?_
  refine lv_iload_n hx hb d_X_isOperand_1 rfl (lv_at hl 2 rfl) ?_
  obtain ⟨o_1, hM_1, hf⟩ := bd_some hf
  refine cr_i (va_runV (As := [.int p1]) (rest := []) ⟨hx, hb, hml, hown, hts⟩ (c_T_kindOf l dC dI aT aK aG aE aW cK s.heap.size tn ts tk p1 o_1 hM_1) (cwV 1 hts (gwV wb_153 wb_40 wb_41 wb_32 wb_39) rfl rfl rfl (by decide +kernel) ⟨Nat.le_of_ble_eq_true rfl, Nat.le_of_ble_eq_true rfl⟩) (pr_V (hP.sub [2, 3] rfl) (hD.sub [2, 3] (by decide) rfl) hK hN [1] rfl (ci := 2) rfl rfl rfl) rfl rfl hl.1 rfl (lv_room (Nat.le_of_ble_eq_true rfl)) d_X_isOperand_2 ⟨Nat.zero_le _, Nat.zero_le _⟩) hP hD hS hA (in_of [2, 3] rfl) (fun r_1 H locs hw hP hS => ?_)
  subst r_1
  refine lv_istore_n (lv' := [(3, .int o_1), (0, .ref aX), (1, .ref aT), (2, .int p1)]) hx hb d_X_isOperand_5 rfl hl (by decide) rfl (fun ls hl => ?_)
  refine lv_iload_n hx hb d_X_isOperand_6 rfl (lv_at hl 0 rfl) ?_
  refine lv_iconst (v := (1 : Int32)) hx hb d_X_isOperand_7 (by decide) ?_
  refine lv_icmp_ne (tgt := 37) hx hb d_X_isOperand_8 (by decide) (fun c_2 => ?_) (fun c_2 => ?_)
  · rw [if_neg c_2] at hf
    refine lv_iload_n hx hb d_X_isOperand_37 rfl (lv_at hl 0 rfl) ?_
    refine lv_iconst (v := (2 : Int32)) hx hb d_X_isOperand_38 (by decide) ?_
    refine lv_icmp_eq (tgt := 52) hx hb d_X_isOperand_39 (by decide) (fun c_3 => ?_) (fun c_3 => ?_)
    · rw [if_pos c_3] at hf
      refine lv_iconst (v := (1 : Int32)) hx hb d_X_isOperand_52 (by decide) ?_
      refine lv_goto (tgt := 57) hx hb d_X_isOperand_53 (by decide) ?_
      have ho := Option.some.inj hf
      subst o
      have hP9 := hP.part (cx := [(aX, .inr (5, [.ref aM, .ref aY, .int xn, .ref aV])), (aM, .inl (cM, 1024, .inr (.inr (.inr (.inr xm))))), (aT, .inr (2, [.ref aK, .ref aG, .ref aE, .ref aW, .int tn, .int ts])), (aK, .inl (cK, 1024, .inl tk)), (aW, .inl (cW, 1024, .inr (.inl tw)))]) [0, 1, 2, 3, 4] rfl
      have hD9 := hD.part (cx := [(aX, .inr (5, [.ref aM, .ref aY, .int xn, .ref aV])), (aM, .inl (cM, 1024, .inr (.inr (.inr (.inr xm))))), (aT, .inr (2, [.ref aK, .ref aG, .ref aE, .ref aW, .int tn, .int ts])), (aK, .inl (cK, 1024, .inl tk)), (aW, .inl (cW, 1024, .inr (.inl tw)))]) [0, 1, 2, 3, 4] (by decide) rfl
      exact W.zret (v := (1 : Int32)) (ty := .boolean) hx hb hr rfl (fun t ht hW => ⟨⟨(1 : Int32), (), rfl, ⟨rfl, rfl⟩, by rw [ht]; exact hP9, va_K.moved hW.alike hK, hD9⟩, hS.F ht⟩) hS.2.2 d_X_isOperand_57
    · rw [if_neg c_3] at hf
      refine lv_aload_n hx hb d_X_isOperand_42 rfl (lv_at hl 2 rfl) ?_
      refine lv_iload_n hx hb d_X_isOperand_43 rfl (lv_at hl 3 rfl) ?_
      obtain ⟨o_4, hM_4, hf⟩ := bd_some hf
      refine cr_i (va_runV (As := [.int p1]) (rest := []) ⟨hx, hb, hml, hown, hts⟩ (c_T_signOf l dC dI aT aK aG aE aW cK cW H.size tn ts tk tw p1 o_4 hM_4) (cwV 1 hts (gwV wb_312 wb_314 wb_315 wb_32 wb_313) rfl rfl rfl (by decide +kernel) ⟨Nat.le_of_ble_eq_true rfl, Nat.le_of_ble_eq_true rfl⟩) (pr_V (hP.sub [2, 3, 4] rfl) (hD.sub [2, 3, 4] (by decide) rfl) hK hN [1, 2] rfl (ci := 2) rfl rfl rfl) rfl rfl hl.1 rfl (lv_room (Nat.le_of_ble_eq_true rfl)) d_X_isOperand_44 ⟨Nat.zero_le _, Nat.zero_le _⟩) hP hD hS hA (in_of [2, 3, 4] rfl) (fun r_4 H locs hw hP hS => ?_)
      subst r_4
      refine lv_bipush (v := (36 : Int32)) hx hb d_X_isOperand_47 (by decide) ?_
      refine lv_icmp_ne (tgt := 56) hx hb d_X_isOperand_49 (by decide) (fun c_5 => ?_) (fun c_5 => ?_)
      · rw [if_neg c_5] at hf
        refine lv_iconst (v := (0 : Int32)) hx hb d_X_isOperand_56 (by decide) ?_
        have ho := Option.some.inj hf
        subst o
        have hP9 := hP.part (cx := [(aX, .inr (5, [.ref aM, .ref aY, .int xn, .ref aV])), (aM, .inl (cM, 1024, .inr (.inr (.inr (.inr xm))))), (aT, .inr (2, [.ref aK, .ref aG, .ref aE, .ref aW, .int tn, .int ts])), (aK, .inl (cK, 1024, .inl tk)), (aW, .inl (cW, 1024, .inr (.inl tw)))]) [0, 1, 2, 3, 4] rfl
        have hD9 := hD.part (cx := [(aX, .inr (5, [.ref aM, .ref aY, .int xn, .ref aV])), (aM, .inl (cM, 1024, .inr (.inr (.inr (.inr xm))))), (aT, .inr (2, [.ref aK, .ref aG, .ref aE, .ref aW, .int tn, .int ts])), (aK, .inl (cK, 1024, .inl tk)), (aW, .inl (cW, 1024, .inr (.inl tw)))]) [0, 1, 2, 3, 4] (by decide) rfl
        exact W.zret (v := (0 : Int32)) (ty := .boolean) hx hb hr rfl (fun t ht hW => ⟨⟨(0 : Int32), (), rfl, ⟨rfl, rfl⟩, by rw [ht]; exact hP9, va_K.moved hW.alike hK, hD9⟩, hS.F ht⟩) hS.2.2 d_X_isOperand_57
      · rw [if_pos c_5] at hf
        refine lv_iconst (v := (1 : Int32)) hx hb d_X_isOperand_52 (by decide) ?_
        refine lv_goto (tgt := 57) hx hb d_X_isOperand_53 (by decide) ?_
        have ho := Option.some.inj hf
        subst o
        have hP9 := hP.part (cx := [(aX, .inr (5, [.ref aM, .ref aY, .int xn, .ref aV])), (aM, .inl (cM, 1024, .inr (.inr (.inr (.inr xm))))), (aT, .inr (2, [.ref aK, .ref aG, .ref aE, .ref aW, .int tn, .int ts])), (aK, .inl (cK, 1024, .inl tk)), (aW, .inl (cW, 1024, .inr (.inl tw)))]) [0, 1, 2, 3, 4] rfl
        have hD9 := hD.part (cx := [(aX, .inr (5, [.ref aM, .ref aY, .int xn, .ref aV])), (aM, .inl (cM, 1024, .inr (.inr (.inr (.inr xm))))), (aT, .inr (2, [.ref aK, .ref aG, .ref aE, .ref aW, .int tn, .int ts])), (aK, .inl (cK, 1024, .inl tk)), (aW, .inl (cW, 1024, .inr (.inl tw)))]) [0, 1, 2, 3, 4] (by decide) rfl
        exact W.zret (v := (1 : Int32)) (ty := .boolean) hx hb hr rfl (fun t ht hW => ⟨⟨(1 : Int32), (), rfl, ⟨rfl, rfl⟩, by rw [ht]; exact hP9, va_K.moved hW.alike hK, hD9⟩, hS.F ht⟩) hS.2.2 d_X_isOperand_57
  · rw [if_pos c_2] at hf
    refine lv_aload_n hx hb d_X_isOperand_11 rfl (lv_at hl 1 rfl) ?_
    refine lv_iload_n hx hb d_X_isOperand_12 rfl (lv_at hl 3 rfl) ?_
    obtain ⟨o_6, hM_6, hf⟩ := bd_some hf
    refine cr_q (va_runV (As := [.int p1]) (rest := []) ⟨hx, hb, hml, hown, hts⟩ (c_X_meaningOf l dC dI aX aM aY aV aC aP aO cM H.size xn xm p1 o_6 hM_6) (cwV 1 hts (gwV wb_154 wb_156 wb_157 wb_158 wb_155) rfl rfl rfl (by decide +kernel) ⟨Nat.le_of_ble_eq_true rfl, Nat.le_of_ble_eq_true rfl⟩) (pr_V (hP.sub [0, 1] rfl) (hD.sub [0, 1] (by decide) rfl) hK hN [0] rfl (ci := 5) rfl rfl rfl) rfl rfl hl.1 rfl (lv_room (Nat.le_of_ble_eq_true rfl)) d_X_isOperand_13 ⟨Nat.zero_le _, Nat.zero_le _⟩) hP hD hS hA (in_of [0, 1] rfl) (fun r_6 H locs hw hP hS => ?_)
    subst r_6
    cases e_7 : o_6 with
    | none =>
      rw [e_7, oc_none] at hf
      refine W.eq (g2 := F0 m 16 ls [.null]) rfl ?_
      refine lv_astoreN (lv' := [(4, .null), (3, .int o_1), (0, .ref aX), (1, .ref aT), (2, .int p1)]) hx hb d_X_isOperand_16 hl (by decide) rfl (fun ls hl => ?_)
      refine lv_aloadN hx hb d_X_isOperand_18 (lv_at hl 0 rfl) ?_
      refine lv_ifnullN (tgt := 31) hx hb d_X_isOperand_20 (by decide) ?_
      refine lv_iconst (v := (1 : Int32)) hx hb d_X_isOperand_31 (by decide) ?_
      refine lv_goto (tgt := 36) hx hb d_X_isOperand_32 (by decide) ?_
      have ho := Option.some.inj hf
      subst o
      have hP9 := hP.part (cx := [(aX, .inr (5, [.ref aM, .ref aY, .int xn, .ref aV])), (aM, .inl (cM, 1024, .inr (.inr (.inr (.inr xm))))), (aT, .inr (2, [.ref aK, .ref aG, .ref aE, .ref aW, .int tn, .int ts])), (aK, .inl (cK, 1024, .inl tk)), (aW, .inl (cW, 1024, .inr (.inl tw)))]) [0, 1, 2, 3, 4] rfl
      have hD9 := hD.part (cx := [(aX, .inr (5, [.ref aM, .ref aY, .int xn, .ref aV])), (aM, .inl (cM, 1024, .inr (.inr (.inr (.inr xm))))), (aT, .inr (2, [.ref aK, .ref aG, .ref aE, .ref aW, .int tn, .int ts])), (aK, .inl (cK, 1024, .inl tk)), (aW, .inl (cW, 1024, .inr (.inl tw)))]) [0, 1, 2, 3, 4] (by decide) rfl
      exact W.zret (v := (1 : Int32)) (ty := .boolean) hx hb hr rfl (fun t ht hW => ⟨⟨(1 : Int32), (), rfl, ⟨rfl, rfl⟩, by rw [ht]; exact hP9, va_K.moved hW.alike hK, hD9⟩, hS.F ht⟩) hS.2.2 d_X_isOperand_36
    | some z_7 =>
      rw [e_7, oc_some] at hf
      refine W.eq (g2 := F0 m 16 ls [.ref z_7]) rfl ?_
      refine lv_astore (lv' := [(4, .ref z_7), (3, .int o_1), (0, .ref aX), (1, .ref aT), (2, .int p1)]) hx hb d_X_isOperand_16 hl (by decide) rfl (fun ls hl => ?_)
      refine lv_aload hx hb d_X_isOperand_18 (lv_at hl 0 rfl) ?_
      refine lv_ifnull hx hb d_X_isOperand_20 ?_
      refine lv_aload hx hb d_X_isOperand_23 (lv_at hl 0 rfl) ?_
      obtain ⟨r_8, hr_8, hf⟩ := bd_some hf
      obtain ⟨kz_8, hz_8, hy_8⟩ := np_get (X := [(aX, .inr (5, [.ref aM, .ref aY, .int xn, .ref aV])), (aM, .inl (cM, 1024, .inr (.inr (.inr (.inr xm))))), (aT, .inr (2, [.ref aK, .ref aG, .ref aE, .ref aW, .int tn, .int ts])), (aK, .inl (cK, 1024, .inl tk)), (aW, .inl (cW, 1024, .inr (.inl tw)))]) (cB := cB) hr_8
      refine va_getN (D := (dC, dI)) (ci := 3) (v := .int r_8.2.2.2.2.1) (C := R_N) (T := F_N) (N := 4) (host := R_R) hx hb hts i_N hown hK hP kz_8 hz_8 rfl 1 (by decide) (hN.use nl_1 rfl) (fun _ h9 => h9) rfl d_X_isOperand_25 ?_
      refine lv_if_ne (tgt := 35) hx hb d_X_isOperand_28 (by decide) (fun c_9 => ?_) (fun c_9 => ?_)
      · rw [if_neg c_9] at hf
        refine lv_iconst (v := (0 : Int32)) hx hb d_X_isOperand_35 (by decide) ?_
        have ho := Option.some.inj hf
        subst o
        have hP9 := hP.part (cx := [(aX, .inr (5, [.ref aM, .ref aY, .int xn, .ref aV])), (aM, .inl (cM, 1024, .inr (.inr (.inr (.inr xm))))), (aT, .inr (2, [.ref aK, .ref aG, .ref aE, .ref aW, .int tn, .int ts])), (aK, .inl (cK, 1024, .inl tk)), (aW, .inl (cW, 1024, .inr (.inl tw)))]) [0, 1, 2, 3, 4] rfl
        have hD9 := hD.part (cx := [(aX, .inr (5, [.ref aM, .ref aY, .int xn, .ref aV])), (aM, .inl (cM, 1024, .inr (.inr (.inr (.inr xm))))), (aT, .inr (2, [.ref aK, .ref aG, .ref aE, .ref aW, .int tn, .int ts])), (aK, .inl (cK, 1024, .inl tk)), (aW, .inl (cW, 1024, .inr (.inl tw)))]) [0, 1, 2, 3, 4] (by decide) rfl
        exact W.zret (v := (0 : Int32)) (ty := .boolean) hx hb hr rfl (fun t ht hW => ⟨⟨(0 : Int32), (), rfl, ⟨rfl, rfl⟩, by rw [ht]; exact hP9, va_K.moved hW.alike hK, hD9⟩, hS.F ht⟩) hS.2.2 d_X_isOperand_36
      · rw [if_pos c_9] at hf
        refine lv_iconst (v := (1 : Int32)) hx hb d_X_isOperand_31 (by decide) ?_
        refine lv_goto (tgt := 36) hx hb d_X_isOperand_32 (by decide) ?_
        have ho := Option.some.inj hf
        subst o
        have hP9 := hP.part (cx := [(aX, .inr (5, [.ref aM, .ref aY, .int xn, .ref aV])), (aM, .inl (cM, 1024, .inr (.inr (.inr (.inr xm))))), (aT, .inr (2, [.ref aK, .ref aG, .ref aE, .ref aW, .int tn, .int ts])), (aK, .inl (cK, 1024, .inl tk)), (aW, .inl (cW, 1024, .inr (.inl tw)))]) [0, 1, 2, 3, 4] rfl
        have hD9 := hD.part (cx := [(aX, .inr (5, [.ref aM, .ref aY, .int xn, .ref aV])), (aM, .inl (cM, 1024, .inr (.inr (.inr (.inr xm))))), (aT, .inr (2, [.ref aK, .ref aG, .ref aE, .ref aW, .int tn, .int ts])), (aK, .inl (cK, 1024, .inl tk)), (aW, .inl (cW, 1024, .inr (.inl tw)))]) [0, 1, 2, 3, 4] (by decide) rfl
        exact W.zret (v := (1 : Int32)) (ty := .boolean) hx hb hr rfl (fun t ht hW => ⟨⟨(1 : Int32), (), rfl, ⟨rfl, rfl⟩, by rw [ht]; exact hP9, va_K.moved hW.alike hK, hD9⟩, hS.F ht⟩) hS.2.2 d_X_isOperand_36

def f_X_isExpression_l8 : Nat → (Nat → Option Nat) → Int32 → (Nat → Int32) → (Nat → Int64) → (List NmR) → Int32 → Int32 → Int32 → Int32 → Option (Int32)
  | 0, _, _, _, _, _, _, _, _, _ => none
  | n + 1, xm, tn, tk, tw, ns, x2, x3, x4, x5 => (f_T_size tn).bind (fun o_1 => if o_1 ≤ x5 then if x3 = (0 : Int32) then if x4 = (0 : Int32) then some ((1 : Int32)) else some ((0 : Int32)) else some ((0 : Int32)) else (f_T_signOf tn tk tw x5).bind (fun o_5 => if x3 = (0 : Int32) then if o_5 = (41 : Int32) then if (0 : Int32) ≤ (x4 + (-1 : Int32)) then f_X_isExpression_l8 n xm tn tk tw ns x2 x3 (x4 + (-1 : Int32)) (x5 + (1 : Int32)) else some ((0 : Int32)) else if x2 = (0 : Int32) then (f_X_rankOf o_5).bind (fun o_9 => if (1 : Int32) ≤ o_9 then f_X_isExpression_l8 n xm tn tk tw ns x2 (1 : Int32) x4 (x5 + (1 : Int32)) else some ((0 : Int32))) else if x4 = (0 : Int32) then (f_X_rankOf o_5).bind (fun o_14 => if (6 : Int32) ≤ o_14 then f_X_isExpression_l8 n xm tn tk tw ns x2 (1 : Int32) x4 (x5 + (1 : Int32)) else some ((0 : Int32))) else (f_X_rankOf o_5).bind (fun o_12 => if (1 : Int32) ≤ o_12 then f_X_isExpression_l8 n xm tn tk tw ns x2 (1 : Int32) x4 (x5 + (1 : Int32)) else some ((0 : Int32))) else (f_X_isOperand xm tn tk tw ns x5).bind (fun o_17 => if o_17 = (0 : Int32) then if (1 : Int32) = (0 : Int32) then if o_5 = (40 : Int32) then f_X_isExpression_l8 n xm tn tk tw ns x2 (1 : Int32) (x4 + (1 : Int32)) (x5 + (1 : Int32)) else f_X_isExpression_l8 n xm tn tk tw ns x2 (1 : Int32) (x4 + (0 : Int32)) (x5 + (1 : Int32)) else if o_5 = (40 : Int32) then if o_5 = (40 : Int32) then f_X_isExpression_l8 n xm tn tk tw ns x2 (1 : Int32) (x4 + (1 : Int32)) (x5 + (1 : Int32)) else f_X_isExpression_l8 n xm tn tk tw ns x2 (1 : Int32) (x4 + (0 : Int32)) (x5 + (1 : Int32)) else (f_X_isPrefix o_5).bind (fun o_30 => if o_30 = (0 : Int32) then some ((0 : Int32)) else if o_5 = (40 : Int32) then f_X_isExpression_l8 n xm tn tk tw ns x2 (1 : Int32) (x4 + (1 : Int32)) (x5 + (1 : Int32)) else f_X_isExpression_l8 n xm tn tk tw ns x2 (1 : Int32) (x4 + (0 : Int32)) (x5 + (1 : Int32))) else if (0 : Int32) = (0 : Int32) then if o_5 = (40 : Int32) then f_X_isExpression_l8 n xm tn tk tw ns x2 (0 : Int32) (x4 + (1 : Int32)) (x5 + (1 : Int32)) else f_X_isExpression_l8 n xm tn tk tw ns x2 (0 : Int32) (x4 + (0 : Int32)) (x5 + (1 : Int32)) else if o_5 = (40 : Int32) then if o_5 = (40 : Int32) then f_X_isExpression_l8 n xm tn tk tw ns x2 (0 : Int32) (x4 + (1 : Int32)) (x5 + (1 : Int32)) else f_X_isExpression_l8 n xm tn tk tw ns x2 (0 : Int32) (x4 + (0 : Int32)) (x5 + (1 : Int32)) else (f_X_isPrefix o_5).bind (fun o_23 => if o_23 = (0 : Int32) then some ((0 : Int32)) else if o_5 = (40 : Int32) then f_X_isExpression_l8 n xm tn tk tw ns x2 (0 : Int32) (x4 + (1 : Int32)) (x5 + (1 : Int32)) else f_X_isExpression_l8 n xm tn tk tw ns x2 (0 : Int32) (x4 + (0 : Int32)) (x5 + (1 : Int32))))))
def f_X_isExpression (xm : Nat → Option Nat) (tn : Int32) (tk : Nat → Int32) (tw : Nat → Int64) (ns : List NmR) (p1 : Int32) : Option (Int32) := f_X_isExpression_l8 FU xm tn tk tw ns p1 (1 : Int32) (0 : Int32) (0 : Int32)
set_option maxHeartbeats 4000000 in
set_option maxRecDepth 100000 in
theorem c_X_isExpression (l : Launch) (dC : Nat → ClassId) (dI : Nat → Nat → Nat) (aX aM aY aV aC aP aO aT aK aG aE aW : Nat) (cM cK cW cB : ClassId) (sz : Nat) (xn : Int32) (xm : Nat → Option Nat) (tn : Int32) (ts : Int32) (tk : Nat → Int32) (tw : Nat → Int64) (ns : List NmR) (p1 : Int32) (o : Int32) (hf : f_X_isExpression xm tn tk tw ns p1 = some o) : Met l y_X_isExpression (w_X_isExpression) ({ frames := 4, cells := 0, slots := 0, locals := 87 }) (va_Pc [.ref aX, .ref aT, .int p1] (fun U => U.heap.size = sz ∧ va_P (dC, dI) vwCl ([(aX, .inr (5, [.ref aM, .ref aY, .int xn, .ref aV])), (aM, .inl (cM, 1024, .inr (.inr (.inr (.inr xm))))), (aT, .inr (2, [.ref aK, .ref aG, .ref aE, .ref aW, .int tn, .int ts])), (aK, .inl (cK, 1024, .inl tk)), (aW, .inl (cW, 1024, .inr (.inl tw)))] ++ np cB ns) U.heap ∧ va_K (dC, dI) vwCl [(cM, (.object "ExpressionReader$Name")), (cK, .byte), (cW, .long), (cB, .byte)] U ∧ va_D (fun _ => True) ([(aX, .inr (5, [.ref aM, .ref aY, .int xn, .ref aV])), (aM, .inl (cM, 1024, .inr (.inr (.inr (.inr xm))))), (aT, .inr (2, [.ref aK, .ref aG, .ref aE, .ref aW, .int tn, .int ts])), (aK, .inl (cK, 1024, .inl tk)), (aW, .inl (cW, 1024, .inr (.inl tw)))] ++ np cB ns) ∧ NW U)) (va_Qi (fun (r : Int32) (_ : Unit) => r = o ∧ narrow .boolean (.int r) = .int r) (fun _ t => va_P (dC, dI) vwCl ([(aX, .inr (5, [.ref aM, .ref aY, .int xn, .ref aV])), (aM, .inl (cM, 1024, .inr (.inr (.inr (.inr xm))))), (aT, .inr (2, [.ref aK, .ref aG, .ref aE, .ref aW, .int tn, .int ts])), (aK, .inl (cK, 1024, .inl tk)), (aW, .inl (cW, 1024, .inr (.inl tw)))] ++ np cB ns) t.heap ∧ va_K (dC, dI) vwCl [(cM, (.object "ExpressionReader$Name")), (cK, .byte), (cW, .long), (cB, .byte)] t ∧ va_D (va_A ([(aX, .inr (5, [.ref aM, .ref aY, .int xn, .ref aV])), (aM, .inl (cM, 1024, .inr (.inr (.inr (.inr xm))))), (aT, .inr (2, [.ref aK, .ref aG, .ref aE, .ref aW, .int tn, .int ts])), (aK, .inl (cK, 1024, .inl tk)), (aW, .inl (cW, 1024, .inr (.inl tw)))] ++ np cB ns) sz) ([(aX, .inr (5, [.ref aM, .ref aY, .int xn, .ref aV])), (aM, .inl (cM, 1024, .inr (.inr (.inr (.inr xm))))), (aT, .inr (2, [.ref aK, .ref aG, .ref aE, .ref aW, .int tn, .int ts])), (aK, .inl (cK, 1024, .inl tk)), (aW, .inl (cW, 1024, .inr (.inl tw)))] ++ np cB ns)) (va_A ([(aX, .inr (5, [.ref aM, .ref aY, .int xn, .ref aV])), (aM, .inl (cM, 1024, .inr (.inr (.inr (.inr xm))))), (aT, .inr (2, [.ref aK, .ref aG, .ref aE, .ref aW, .int tn, .int ts])), (aK, .inl (cK, 1024, .inl tk)), (aW, .inl (cW, 1024, .inr (.inl tw)))] ++ np cB ns) sz)) 0 0 (va_A ([(aX, .inr (5, [.ref aM, .ref aY, .int xn, .ref aV])), (aM, .inl (cM, 1024, .inr (.inr (.inr (.inr xm))))), (aT, .inr (2, [.ref aK, .ref aG, .ref aE, .ref aW, .int tn, .int ts])), (aK, .inl (cK, 1024, .inl tk)), (aW, .inl (cW, 1024, .inr (.inl tw)))] ++ np cB ns) sz) := by
  refine Met.ofW (cc := b_X_isExpression) (maxL := 8) (ret := (some .boolean)) (by decide) rfl ?_
  intro p e s m args below meth c s₁ B hml hv
  obtain ⟨rfl, hsz, hP, hK, hD0, hN⟩ := hv
  have hx := B.exec
  have hb := B.bytes
  have hr := B.returns
  have hts : ∀ w ∈ WB, w.before _ s = true := fun w h => atoms_spec (ws := w_X_isExpression) B.pre w (List.mem_cons_of_mem _ h)
  have hown : s.vm.findClass R_X = some m.cls := findClass_of_methodNamed B.named
  have hlocks := B.notSynchronized
  subst hsz
  have hD := hD0.self (sz := s.heap.size)
  generalize hAe : va_A ([(aX, .inr (5, [.ref aM, .ref aY, .int xn, .ref aV])), (aM, .inl (cM, 1024, .inr (.inr (.inr (.inr xm))))), (aT, .inr (2, [.ref aK, .ref aG, .ref aE, .ref aW, .int tn, .int ts])), (aK, .inl (cK, 1024, .inl tk)), (aW, .inl (cW, 1024, .inr (.inl tw)))] ++ np cB ns) s.heap.size = A at hD ⊢
  have hA : ∀ q : Nat, s.heap.size ≤ q → A q := fun q h => by rw [← hAe]; exact Or.inr h
  have hS : va_S A s.heap s.heap [] := va_S.rf
  have hP : va_P (dC, dI) vwCl ([(aX, .inr (5, [.ref aM, .ref aY, .int xn, .ref aV])), (aM, .inl (cM, 1024, .inr (.inr (.inr (.inr xm))))), (aT, .inr (2, [.ref aK, .ref aG, .ref aE, .ref aW, .int tn, .int ts])), (aK, .inl (cK, 1024, .inl tk)), (aW, .inl (cW, 1024, .inr (.inl tw)))] ++ np cB ns) s.heap := hP
  have hl := lv_entry [.ref aX, .ref aT, .int p1] (n := 8) (Nat.le_of_ble_eq_true rfl)
  rw [lg_entry_eq]
  generalize (lg_sl [.ref aX, .ref aT, .int p1] ++ List.replicate (8 - (lg_sl [.ref aX, .ref aT, .int p1]).length) Slot.unset).toArray = ls at hl ⊢
  have hl : lv_has ls 8 [(0, .ref aX), (1, .ref aT), (2, .int p1)] := hl
  have loop_8 : ∀ (n : Nat) (xm : Nat → Option Nat) (tn : Int32) (tk : Nat → Int32) (tw : Nat → Int64) (ns : List NmR) (x2 : Int32) (x3 : Int32) (x4 : Int32) (x5 : Int32) (H : Heap) (locs : List Loc) (ls : Array Slot), f_X_isExpression_l8 n xm tn tk tw ns x2 x3 x4 x5 = some o → va_P (dC, dI) vwCl ([(aX, .inr (5, [.ref aM, .ref aY, .int xn, .ref aV])), (aM, .inl (cM, 1024, .inr (.inr (.inr (.inr xm))))), (aT, .inr (2, [.ref aK, .ref aG, .ref aE, .ref aW, .int tn, .int ts])), (aK, .inl (cK, 1024, .inl tk)), (aW, .inl (cW, 1024, .inr (.inl tw)))] ++ np cB ns) H → va_D A ([(aX, .inr (5, [.ref aM, .ref aY, .int xn, .ref aV])), (aM, .inl (cM, 1024, .inr (.inr (.inr (.inr xm))))), (aT, .inr (2, [.ref aK, .ref aG, .ref aE, .ref aW, .int tn, .int ts])), (aK, .inl (cK, 1024, .inl tk)), (aW, .inl (cW, 1024, .inr (.inl tw)))] ++ np cB ns) → va_S A s.heap H locs → lv_has ls 8 [(0, .ref aX), (1, .ref aT), (2, .int x2), (3, .int x3), (4, .int x4), (5, .int x5)] → W p l e (headSpec (w_X_isExpression) ({ frames := 4, cells := 0, slots := 0, locals := 87 })).room s m [.ref aX, .ref aT, .int p1].toArray below meth c H locs 0 0 (MQ below (va_Qi (fun (r : Int32) (_ : Unit) => r = o ∧ narrow .boolean (.int r) = .int r) (fun _ t => va_P (dC, dI) vwCl ([(aX, .inr (5, [.ref aM, .ref aY, .int xn, .ref aV])), (aM, .inl (cM, 1024, .inr (.inr (.inr (.inr xm))))), (aT, .inr (2, [.ref aK, .ref aG, .ref aE, .ref aW, .int tn, .int ts])), (aK, .inl (cK, 1024, .inl tk)), (aW, .inl (cW, 1024, .inr (.inl tw)))] ++ np cB ns) t.heap ∧ va_K (dC, dI) vwCl [(cM, (.object "ExpressionReader$Name")), (cK, .byte), (cW, .long), (cB, .byte)] t ∧ va_D A ([(aX, .inr (5, [.ref aM, .ref aY, .int xn, .ref aV])), (aM, .inl (cM, 1024, .inr (.inr (.inr (.inr xm))))), (aT, .inr (2, [.ref aK, .ref aG, .ref aE, .ref aW, .int tn, .int ts])), (aK, .inl (cK, 1024, .inl tk)), (aW, .inl (cW, 1024, .inr (.inl tw)))] ++ np cB ns)) A) [.ref aX, .ref aT, .int p1].toArray s 0 0 A) (F0 m 8 ls []) := by
    intro n
    induction n with
    | zero => intro xm tn tk tw ns x2 x3 x4 x5 H locs ls hf; exact absurd hf (by simp [f_X_isExpression_l8])
    | succ n ih =>
      intro xm tn tk tw ns x2 x3 x4 x5 H locs ls hf hP hD hS hl
      rw [f_X_isExpression_l8] at hf
      refine lv_iload hx hb d_X_isExpression_8 (lv_at hl 5 rfl) ?_
      refine lv_aload_n hx hb d_X_isExpression_10 rfl (lv_at hl 1 rfl) ?_
      obtain ⟨o_1, hM_1, hf⟩ := bd_some hf
      refine cr_i (va_runV (As := []) (rest := [.int x5]) ⟨hx, hb, hml, hown, hts⟩ (c_T_size l dC dI aT aK aG aE aW  H.size tn ts  o_1 hM_1) (cwV 0 hts (gwV wb_149 wb_151 wb_152 wb_32 wb_150) rfl rfl rfl (by decide +kernel) ⟨Nat.le_of_ble_eq_true rfl, Nat.le_of_ble_eq_true rfl⟩) (pr_V (hP.sub [2] rfl) (hD.sub [2] (by decide) rfl) hK hN [] rfl (ci := 2) rfl rfl rfl) rfl rfl hl.1 rfl (lv_room (Nat.le_of_ble_eq_true rfl)) d_X_isExpression_11 ⟨Nat.zero_le _, Nat.zero_le _⟩) hP hD hS hA (in_of [2] rfl) (fun r_1 H locs hw hP hS => ?_)
      subst r_1
      refine lv_icmp_ge (tgt := 140) hx hb d_X_isExpression_14 (by decide) (fun c_2 => ?_) (fun c_2 => ?_)
      · rw [if_pos c_2] at hf
        refine lv_iload_n hx hb d_X_isExpression_140 rfl (lv_at hl 3 rfl) ?_
        refine lv_if_ne (tgt := 153) hx hb d_X_isExpression_141 (by decide) (fun c_3 => ?_) (fun c_3 => ?_)
        · rw [if_neg c_3] at hf
          refine lv_iconst (v := (0 : Int32)) hx hb d_X_isExpression_153 (by decide) ?_
          have ho := Option.some.inj hf
          subst o
          have hP9 := hP.part (cx := [(aX, .inr (5, [.ref aM, .ref aY, .int xn, .ref aV])), (aM, .inl (cM, 1024, .inr (.inr (.inr (.inr xm))))), (aT, .inr (2, [.ref aK, .ref aG, .ref aE, .ref aW, .int tn, .int ts])), (aK, .inl (cK, 1024, .inl tk)), (aW, .inl (cW, 1024, .inr (.inl tw)))]) [0, 1, 2, 3, 4] rfl
          have hD9 := hD.part (cx := [(aX, .inr (5, [.ref aM, .ref aY, .int xn, .ref aV])), (aM, .inl (cM, 1024, .inr (.inr (.inr (.inr xm))))), (aT, .inr (2, [.ref aK, .ref aG, .ref aE, .ref aW, .int tn, .int ts])), (aK, .inl (cK, 1024, .inl tk)), (aW, .inl (cW, 1024, .inr (.inl tw)))]) [0, 1, 2, 3, 4] (by decide) rfl
          exact W.zret (v := (0 : Int32)) (ty := .boolean) hx hb hr rfl (fun t ht hW => ⟨⟨(0 : Int32), (), rfl, ⟨rfl, rfl⟩, by rw [ht]; exact hP9, va_K.moved hW.alike hK, hD9⟩, hS.F ht⟩) hS.2.2 d_X_isExpression_154
        · rw [if_pos c_3] at hf
          refine lv_iload hx hb d_X_isExpression_144 (lv_at hl 4 rfl) ?_
          refine lv_if_ne (tgt := 153) hx hb d_X_isExpression_146 (by decide) (fun c_4 => ?_) (fun c_4 => ?_)
          · rw [if_neg c_4] at hf
            refine lv_iconst (v := (0 : Int32)) hx hb d_X_isExpression_153 (by decide) ?_
            have ho := Option.some.inj hf
            subst o
            have hP9 := hP.part (cx := [(aX, .inr (5, [.ref aM, .ref aY, .int xn, .ref aV])), (aM, .inl (cM, 1024, .inr (.inr (.inr (.inr xm))))), (aT, .inr (2, [.ref aK, .ref aG, .ref aE, .ref aW, .int tn, .int ts])), (aK, .inl (cK, 1024, .inl tk)), (aW, .inl (cW, 1024, .inr (.inl tw)))]) [0, 1, 2, 3, 4] rfl
            have hD9 := hD.part (cx := [(aX, .inr (5, [.ref aM, .ref aY, .int xn, .ref aV])), (aM, .inl (cM, 1024, .inr (.inr (.inr (.inr xm))))), (aT, .inr (2, [.ref aK, .ref aG, .ref aE, .ref aW, .int tn, .int ts])), (aK, .inl (cK, 1024, .inl tk)), (aW, .inl (cW, 1024, .inr (.inl tw)))]) [0, 1, 2, 3, 4] (by decide) rfl
            exact W.zret (v := (0 : Int32)) (ty := .boolean) hx hb hr rfl (fun t ht hW => ⟨⟨(0 : Int32), (), rfl, ⟨rfl, rfl⟩, by rw [ht]; exact hP9, va_K.moved hW.alike hK, hD9⟩, hS.F ht⟩) hS.2.2 d_X_isExpression_154
          · rw [if_pos c_4] at hf
            refine lv_iconst (v := (1 : Int32)) hx hb d_X_isExpression_149 (by decide) ?_
            refine lv_goto (tgt := 154) hx hb d_X_isExpression_150 (by decide) ?_
            have ho := Option.some.inj hf
            subst o
            have hP9 := hP.part (cx := [(aX, .inr (5, [.ref aM, .ref aY, .int xn, .ref aV])), (aM, .inl (cM, 1024, .inr (.inr (.inr (.inr xm))))), (aT, .inr (2, [.ref aK, .ref aG, .ref aE, .ref aW, .int tn, .int ts])), (aK, .inl (cK, 1024, .inl tk)), (aW, .inl (cW, 1024, .inr (.inl tw)))]) [0, 1, 2, 3, 4] rfl
            have hD9 := hD.part (cx := [(aX, .inr (5, [.ref aM, .ref aY, .int xn, .ref aV])), (aM, .inl (cM, 1024, .inr (.inr (.inr (.inr xm))))), (aT, .inr (2, [.ref aK, .ref aG, .ref aE, .ref aW, .int tn, .int ts])), (aK, .inl (cK, 1024, .inl tk)), (aW, .inl (cW, 1024, .inr (.inl tw)))]) [0, 1, 2, 3, 4] (by decide) rfl
            exact W.zret (v := (1 : Int32)) (ty := .boolean) hx hb hr rfl (fun t ht hW => ⟨⟨(1 : Int32), (), rfl, ⟨rfl, rfl⟩, by rw [ht]; exact hP9, va_K.moved hW.alike hK, hD9⟩, hS.F ht⟩) hS.2.2 d_X_isExpression_154
      · rw [if_neg c_2] at hf
        refine lv_aload_n hx hb d_X_isExpression_17 rfl (lv_at hl 1 rfl) ?_
        refine lv_iload hx hb d_X_isExpression_18 (lv_at hl 5 rfl) ?_
        obtain ⟨o_5, hM_5, hf⟩ := bd_some hf
        refine cr_i (va_runV (As := [.int x5]) (rest := []) ⟨hx, hb, hml, hown, hts⟩ (c_T_signOf l dC dI aT aK aG aE aW cK cW H.size tn ts tk tw x5 o_5 hM_5) (cwV 1 hts (gwV wb_312 wb_314 wb_315 wb_32 wb_313) rfl rfl rfl (by decide +kernel) ⟨Nat.le_of_ble_eq_true rfl, Nat.le_of_ble_eq_true rfl⟩) (pr_V (hP.sub [2, 3, 4] rfl) (hD.sub [2, 3, 4] (by decide) rfl) hK hN [1, 2] rfl (ci := 2) rfl rfl rfl) rfl rfl hl.1 rfl (lv_room (Nat.le_of_ble_eq_true rfl)) d_X_isExpression_20 ⟨Nat.zero_le _, Nat.zero_le _⟩) hP hD hS hA (in_of [2, 3, 4] rfl) (fun r_5 H locs hw hP hS => ?_)
        subst r_5
        refine lv_istore (lv' := [(6, .int o_5), (0, .ref aX), (1, .ref aT), (2, .int x2), (3, .int x3), (4, .int x4), (5, .int x5)]) hx hb d_X_isExpression_23 hl (by decide) rfl (fun ls hl => ?_)
        refine lv_iload_n hx hb d_X_isExpression_25 rfl (lv_at hl 4 rfl) ?_
        refine lv_if_eq (tgt := 86) hx hb d_X_isExpression_26 (by decide) (fun c_6 => ?_) (fun c_6 => ?_)
        · rw [if_pos c_6] at hf
          refine lv_iload hx hb d_X_isExpression_86 (lv_at hl 0 rfl) ?_
          refine lv_bipush (v := (41 : Int32)) hx hb d_X_isExpression_88 (by decide) ?_
          refine lv_icmp_ne (tgt := 103) hx hb d_X_isExpression_90 (by decide) (fun c_7 => ?_) (fun c_7 => ?_)
          · rw [if_neg c_7] at hf
            refine lv_iload_n hx hb d_X_isExpression_103 rfl (lv_at hl 3 rfl) ?_
            refine lv_if_eq (tgt := 117) hx hb d_X_isExpression_104 (by decide) (fun c_8 => ?_) (fun c_8 => ?_)
            · rw [if_pos c_8] at hf
              refine lv_iconst (v := (1 : Int32)) hx hb d_X_isExpression_117 (by decide) ?_
              refine lv_istore (lv' := [(7, .int (1 : Int32)), (6, .int o_5), (0, .ref aX), (1, .ref aT), (2, .int x2), (3, .int x3), (4, .int x4), (5, .int x5)]) hx hb d_X_isExpression_118 hl (by decide) rfl (fun ls hl => ?_)
              refine lv_iload hx hb d_X_isExpression_120 (lv_at hl 1 rfl) ?_
              obtain ⟨o_9, hM_9, hf⟩ := bd_some hf
              refine cr_i (va_runS (As := [.int o_5]) (rest := []) ⟨hx, hb, hml, hown, hts⟩ (c_X_rankOf l dC dI   H.size  o_5 o_9 hM_9) (va_cwS 1 hts (gwS wb_161 wb_163 wb_158 wb_162) rfl rfl rfl (by decide +kernel) ⟨Nat.le_of_ble_eq_true rfl, Nat.le_of_ble_eq_true rfl⟩) (pr_S (hP.sub [] rfl) (hD.sub [] (by decide) rfl) hK hN [] rfl) rfl rfl hl.1 rfl (lv_room (Nat.le_of_ble_eq_true rfl)) d_X_isExpression_122 ⟨Nat.zero_le _, Nat.zero_le _⟩) hP hD hS hA (in_of [] rfl) (fun r_9 H locs hw hP hS => ?_)
              subst r_9
              refine lv_iload hx hb d_X_isExpression_125 (lv_at hl 0 rfl) ?_
              refine lv_icmp_ge (tgt := 132) hx hb d_X_isExpression_127 (by decide) (fun c_10 => ?_) (fun c_10 => ?_)
              · rw [if_pos c_10] at hf
                refine lv_iconst (v := (1 : Int32)) hx hb d_X_isExpression_132 (by decide) ?_
                refine lv_istore_n (lv' := [(3, .int (1 : Int32)), (7, .int (1 : Int32)), (6, .int o_5), (0, .ref aX), (1, .ref aT), (2, .int x2), (4, .int x4), (5, .int x5)]) hx hb d_X_isExpression_133 rfl hl (by decide) rfl (fun ls hl => ?_)
                refine lv_iinc (v := x5 + (1 : Int32)) (lv' := [(5, .int (x5 + (1 : Int32))), (3, .int (1 : Int32)), (7, .int (1 : Int32)), (6, .int o_5), (0, .ref aX), (1, .ref aT), (2, .int x2), (4, .int x4)]) hx hb d_X_isExpression_134 hl (k := 7) rfl rfl (by decide) rfl (fun ls hl => ?_)
                refine lv_goto (tgt := 8) hx hb d_X_isExpression_137 (by decide) ?_
                exact ih xm tn tk tw ns x2 (1 : Int32) x4 (x5 + (1 : Int32)) H locs ls hf (hP.part (cx := [(aX, .inr (5, [.ref aM, .ref aY, .int xn, .ref aV])), (aM, .inl (cM, 1024, .inr (.inr (.inr (.inr xm))))), (aT, .inr (2, [.ref aK, .ref aG, .ref aE, .ref aW, .int tn, .int ts])), (aK, .inl (cK, 1024, .inl tk)), (aW, .inl (cW, 1024, .inr (.inl tw)))]) [0, 1, 2, 3, 4] rfl) (hD.part (cx := [(aX, .inr (5, [.ref aM, .ref aY, .int xn, .ref aV])), (aM, .inl (cM, 1024, .inr (.inr (.inr (.inr xm))))), (aT, .inr (2, [.ref aK, .ref aG, .ref aE, .ref aW, .int tn, .int ts])), (aK, .inl (cK, 1024, .inl tk)), (aW, .inl (cW, 1024, .inr (.inl tw)))]) [0, 1, 2, 3, 4] (by decide) rfl) hS (lv_sub hl [4, 5, 6, 1, 7, 0] rfl)
              · rw [if_neg c_10] at hf
                refine lv_iconst (v := (0 : Int32)) hx hb d_X_isExpression_130 (by decide) ?_
                have ho := Option.some.inj hf
                subst o
                have hP9 := hP.part (cx := [(aX, .inr (5, [.ref aM, .ref aY, .int xn, .ref aV])), (aM, .inl (cM, 1024, .inr (.inr (.inr (.inr xm))))), (aT, .inr (2, [.ref aK, .ref aG, .ref aE, .ref aW, .int tn, .int ts])), (aK, .inl (cK, 1024, .inl tk)), (aW, .inl (cW, 1024, .inr (.inl tw)))]) [0, 1, 2, 3, 4] rfl
                have hD9 := hD.part (cx := [(aX, .inr (5, [.ref aM, .ref aY, .int xn, .ref aV])), (aM, .inl (cM, 1024, .inr (.inr (.inr (.inr xm))))), (aT, .inr (2, [.ref aK, .ref aG, .ref aE, .ref aW, .int tn, .int ts])), (aK, .inl (cK, 1024, .inl tk)), (aW, .inl (cW, 1024, .inr (.inl tw)))]) [0, 1, 2, 3, 4] (by decide) rfl
                exact W.zret (v := (0 : Int32)) (ty := .boolean) hx hb hr rfl (fun t ht hW => ⟨⟨(0 : Int32), (), rfl, ⟨rfl, rfl⟩, by rw [ht]; exact hP9, va_K.moved hW.alike hK, hD9⟩, hS.F ht⟩) hS.2.2 d_X_isExpression_131
            · rw [if_neg c_8] at hf
              refine lv_iload hx hb d_X_isExpression_107 (lv_at hl 5 rfl) ?_
              refine lv_if_ne (tgt := 117) hx hb d_X_isExpression_109 (by decide) (fun c_11 => ?_) (fun c_11 => ?_)
              · rw [if_neg c_11] at hf
                refine lv_iconst (v := (1 : Int32)) hx hb d_X_isExpression_117 (by decide) ?_
                refine lv_istore (lv' := [(7, .int (1 : Int32)), (6, .int o_5), (0, .ref aX), (1, .ref aT), (2, .int x2), (3, .int x3), (4, .int x4), (5, .int x5)]) hx hb d_X_isExpression_118 hl (by decide) rfl (fun ls hl => ?_)
                refine lv_iload hx hb d_X_isExpression_120 (lv_at hl 1 rfl) ?_
                obtain ⟨o_12, hM_12, hf⟩ := bd_some hf
                refine cr_i (va_runS (As := [.int o_5]) (rest := []) ⟨hx, hb, hml, hown, hts⟩ (c_X_rankOf l dC dI   H.size  o_5 o_12 hM_12) (va_cwS 1 hts (gwS wb_161 wb_163 wb_158 wb_162) rfl rfl rfl (by decide +kernel) ⟨Nat.le_of_ble_eq_true rfl, Nat.le_of_ble_eq_true rfl⟩) (pr_S (hP.sub [] rfl) (hD.sub [] (by decide) rfl) hK hN [] rfl) rfl rfl hl.1 rfl (lv_room (Nat.le_of_ble_eq_true rfl)) d_X_isExpression_122 ⟨Nat.zero_le _, Nat.zero_le _⟩) hP hD hS hA (in_of [] rfl) (fun r_12 H locs hw hP hS => ?_)
                subst r_12
                refine lv_iload hx hb d_X_isExpression_125 (lv_at hl 0 rfl) ?_
                refine lv_icmp_ge (tgt := 132) hx hb d_X_isExpression_127 (by decide) (fun c_13 => ?_) (fun c_13 => ?_)
                · rw [if_pos c_13] at hf
                  refine lv_iconst (v := (1 : Int32)) hx hb d_X_isExpression_132 (by decide) ?_
                  refine lv_istore_n (lv' := [(3, .int (1 : Int32)), (7, .int (1 : Int32)), (6, .int o_5), (0, .ref aX), (1, .ref aT), (2, .int x2), (4, .int x4), (5, .int x5)]) hx hb d_X_isExpression_133 rfl hl (by decide) rfl (fun ls hl => ?_)
                  refine lv_iinc (v := x5 + (1 : Int32)) (lv' := [(5, .int (x5 + (1 : Int32))), (3, .int (1 : Int32)), (7, .int (1 : Int32)), (6, .int o_5), (0, .ref aX), (1, .ref aT), (2, .int x2), (4, .int x4)]) hx hb d_X_isExpression_134 hl (k := 7) rfl rfl (by decide) rfl (fun ls hl => ?_)
                  refine lv_goto (tgt := 8) hx hb d_X_isExpression_137 (by decide) ?_
                  exact ih xm tn tk tw ns x2 (1 : Int32) x4 (x5 + (1 : Int32)) H locs ls hf (hP.part (cx := [(aX, .inr (5, [.ref aM, .ref aY, .int xn, .ref aV])), (aM, .inl (cM, 1024, .inr (.inr (.inr (.inr xm))))), (aT, .inr (2, [.ref aK, .ref aG, .ref aE, .ref aW, .int tn, .int ts])), (aK, .inl (cK, 1024, .inl tk)), (aW, .inl (cW, 1024, .inr (.inl tw)))]) [0, 1, 2, 3, 4] rfl) (hD.part (cx := [(aX, .inr (5, [.ref aM, .ref aY, .int xn, .ref aV])), (aM, .inl (cM, 1024, .inr (.inr (.inr (.inr xm))))), (aT, .inr (2, [.ref aK, .ref aG, .ref aE, .ref aW, .int tn, .int ts])), (aK, .inl (cK, 1024, .inl tk)), (aW, .inl (cW, 1024, .inr (.inl tw)))]) [0, 1, 2, 3, 4] (by decide) rfl) hS (lv_sub hl [4, 5, 6, 1, 7, 0] rfl)
                · rw [if_neg c_13] at hf
                  refine lv_iconst (v := (0 : Int32)) hx hb d_X_isExpression_130 (by decide) ?_
                  have ho := Option.some.inj hf
                  subst o
                  have hP9 := hP.part (cx := [(aX, .inr (5, [.ref aM, .ref aY, .int xn, .ref aV])), (aM, .inl (cM, 1024, .inr (.inr (.inr (.inr xm))))), (aT, .inr (2, [.ref aK, .ref aG, .ref aE, .ref aW, .int tn, .int ts])), (aK, .inl (cK, 1024, .inl tk)), (aW, .inl (cW, 1024, .inr (.inl tw)))]) [0, 1, 2, 3, 4] rfl
                  have hD9 := hD.part (cx := [(aX, .inr (5, [.ref aM, .ref aY, .int xn, .ref aV])), (aM, .inl (cM, 1024, .inr (.inr (.inr (.inr xm))))), (aT, .inr (2, [.ref aK, .ref aG, .ref aE, .ref aW, .int tn, .int ts])), (aK, .inl (cK, 1024, .inl tk)), (aW, .inl (cW, 1024, .inr (.inl tw)))]) [0, 1, 2, 3, 4] (by decide) rfl
                  exact W.zret (v := (0 : Int32)) (ty := .boolean) hx hb hr rfl (fun t ht hW => ⟨⟨(0 : Int32), (), rfl, ⟨rfl, rfl⟩, by rw [ht]; exact hP9, va_K.moved hW.alike hK, hD9⟩, hS.F ht⟩) hS.2.2 d_X_isExpression_131
              · rw [if_pos c_11] at hf
                refine lv_bipush (v := (6 : Int32)) hx hb d_X_isExpression_112 (by decide) ?_
                refine lv_goto (tgt := 118) hx hb d_X_isExpression_114 (by decide) ?_
                refine lv_istore (lv' := [(7, .int (6 : Int32)), (6, .int o_5), (0, .ref aX), (1, .ref aT), (2, .int x2), (3, .int x3), (4, .int x4), (5, .int x5)]) hx hb d_X_isExpression_118 hl (by decide) rfl (fun ls hl => ?_)
                refine lv_iload hx hb d_X_isExpression_120 (lv_at hl 1 rfl) ?_
                obtain ⟨o_14, hM_14, hf⟩ := bd_some hf
                refine cr_i (va_runS (As := [.int o_5]) (rest := []) ⟨hx, hb, hml, hown, hts⟩ (c_X_rankOf l dC dI   H.size  o_5 o_14 hM_14) (va_cwS 1 hts (gwS wb_161 wb_163 wb_158 wb_162) rfl rfl rfl (by decide +kernel) ⟨Nat.le_of_ble_eq_true rfl, Nat.le_of_ble_eq_true rfl⟩) (pr_S (hP.sub [] rfl) (hD.sub [] (by decide) rfl) hK hN [] rfl) rfl rfl hl.1 rfl (lv_room (Nat.le_of_ble_eq_true rfl)) d_X_isExpression_122 ⟨Nat.zero_le _, Nat.zero_le _⟩) hP hD hS hA (in_of [] rfl) (fun r_14 H locs hw hP hS => ?_)
                subst r_14
                refine lv_iload hx hb d_X_isExpression_125 (lv_at hl 0 rfl) ?_
                refine lv_icmp_ge (tgt := 132) hx hb d_X_isExpression_127 (by decide) (fun c_15 => ?_) (fun c_15 => ?_)
                · rw [if_pos c_15] at hf
                  refine lv_iconst (v := (1 : Int32)) hx hb d_X_isExpression_132 (by decide) ?_
                  refine lv_istore_n (lv' := [(3, .int (1 : Int32)), (7, .int (6 : Int32)), (6, .int o_5), (0, .ref aX), (1, .ref aT), (2, .int x2), (4, .int x4), (5, .int x5)]) hx hb d_X_isExpression_133 rfl hl (by decide) rfl (fun ls hl => ?_)
                  refine lv_iinc (v := x5 + (1 : Int32)) (lv' := [(5, .int (x5 + (1 : Int32))), (3, .int (1 : Int32)), (7, .int (6 : Int32)), (6, .int o_5), (0, .ref aX), (1, .ref aT), (2, .int x2), (4, .int x4)]) hx hb d_X_isExpression_134 hl (k := 7) rfl rfl (by decide) rfl (fun ls hl => ?_)
                  refine lv_goto (tgt := 8) hx hb d_X_isExpression_137 (by decide) ?_
                  exact ih xm tn tk tw ns x2 (1 : Int32) x4 (x5 + (1 : Int32)) H locs ls hf (hP.part (cx := [(aX, .inr (5, [.ref aM, .ref aY, .int xn, .ref aV])), (aM, .inl (cM, 1024, .inr (.inr (.inr (.inr xm))))), (aT, .inr (2, [.ref aK, .ref aG, .ref aE, .ref aW, .int tn, .int ts])), (aK, .inl (cK, 1024, .inl tk)), (aW, .inl (cW, 1024, .inr (.inl tw)))]) [0, 1, 2, 3, 4] rfl) (hD.part (cx := [(aX, .inr (5, [.ref aM, .ref aY, .int xn, .ref aV])), (aM, .inl (cM, 1024, .inr (.inr (.inr (.inr xm))))), (aT, .inr (2, [.ref aK, .ref aG, .ref aE, .ref aW, .int tn, .int ts])), (aK, .inl (cK, 1024, .inl tk)), (aW, .inl (cW, 1024, .inr (.inl tw)))]) [0, 1, 2, 3, 4] (by decide) rfl) hS (lv_sub hl [4, 5, 6, 1, 7, 0] rfl)
                · rw [if_neg c_15] at hf
                  refine lv_iconst (v := (0 : Int32)) hx hb d_X_isExpression_130 (by decide) ?_
                  have ho := Option.some.inj hf
                  subst o
                  have hP9 := hP.part (cx := [(aX, .inr (5, [.ref aM, .ref aY, .int xn, .ref aV])), (aM, .inl (cM, 1024, .inr (.inr (.inr (.inr xm))))), (aT, .inr (2, [.ref aK, .ref aG, .ref aE, .ref aW, .int tn, .int ts])), (aK, .inl (cK, 1024, .inl tk)), (aW, .inl (cW, 1024, .inr (.inl tw)))]) [0, 1, 2, 3, 4] rfl
                  have hD9 := hD.part (cx := [(aX, .inr (5, [.ref aM, .ref aY, .int xn, .ref aV])), (aM, .inl (cM, 1024, .inr (.inr (.inr (.inr xm))))), (aT, .inr (2, [.ref aK, .ref aG, .ref aE, .ref aW, .int tn, .int ts])), (aK, .inl (cK, 1024, .inl tk)), (aW, .inl (cW, 1024, .inr (.inl tw)))]) [0, 1, 2, 3, 4] (by decide) rfl
                  exact W.zret (v := (0 : Int32)) (ty := .boolean) hx hb hr rfl (fun t ht hW => ⟨⟨(0 : Int32), (), rfl, ⟨rfl, rfl⟩, by rw [ht]; exact hP9, va_K.moved hW.alike hK, hD9⟩, hS.F ht⟩) hS.2.2 d_X_isExpression_131
          · rw [if_pos c_7] at hf
            refine lv_iinc (v := x4 + (-1 : Int32)) (lv' := [(4, .int (x4 + (-1 : Int32))), (6, .int o_5), (0, .ref aX), (1, .ref aT), (2, .int x2), (3, .int x3), (5, .int x5)]) hx hb d_X_isExpression_93 hl (k := 5) rfl rfl (by decide) rfl (fun ls hl => ?_)
            refine lv_iload hx hb d_X_isExpression_96 (lv_at hl 0 rfl) ?_
            refine lv_if_ge (tgt := 134) hx hb d_X_isExpression_98 (by decide) (fun c_16 => ?_) (fun c_16 => ?_)
            · rw [if_pos c_16] at hf
              refine lv_iinc (v := x5 + (1 : Int32)) (lv' := [(5, .int (x5 + (1 : Int32))), (4, .int (x4 + (-1 : Int32))), (6, .int o_5), (0, .ref aX), (1, .ref aT), (2, .int x2), (3, .int x3)]) hx hb d_X_isExpression_134 hl (k := 6) rfl rfl (by decide) rfl (fun ls hl => ?_)
              refine lv_goto (tgt := 8) hx hb d_X_isExpression_137 (by decide) ?_
              exact ih xm tn tk tw ns x2 x3 (x4 + (-1 : Int32)) (x5 + (1 : Int32)) H locs ls hf (hP.part (cx := [(aX, .inr (5, [.ref aM, .ref aY, .int xn, .ref aV])), (aM, .inl (cM, 1024, .inr (.inr (.inr (.inr xm))))), (aT, .inr (2, [.ref aK, .ref aG, .ref aE, .ref aW, .int tn, .int ts])), (aK, .inl (cK, 1024, .inl tk)), (aW, .inl (cW, 1024, .inr (.inl tw)))]) [0, 1, 2, 3, 4] rfl) (hD.part (cx := [(aX, .inr (5, [.ref aM, .ref aY, .int xn, .ref aV])), (aM, .inl (cM, 1024, .inr (.inr (.inr (.inr xm))))), (aT, .inr (2, [.ref aK, .ref aG, .ref aE, .ref aW, .int tn, .int ts])), (aK, .inl (cK, 1024, .inl tk)), (aW, .inl (cW, 1024, .inr (.inl tw)))]) [0, 1, 2, 3, 4] (by decide) rfl) hS (lv_sub hl [3, 4, 5, 6, 1, 0] rfl)
            · rw [if_neg c_16] at hf
              refine lv_iconst (v := (0 : Int32)) hx hb d_X_isExpression_101 (by decide) ?_
              have ho := Option.some.inj hf
              subst o
              have hP9 := hP.part (cx := [(aX, .inr (5, [.ref aM, .ref aY, .int xn, .ref aV])), (aM, .inl (cM, 1024, .inr (.inr (.inr (.inr xm))))), (aT, .inr (2, [.ref aK, .ref aG, .ref aE, .ref aW, .int tn, .int ts])), (aK, .inl (cK, 1024, .inl tk)), (aW, .inl (cW, 1024, .inr (.inl tw)))]) [0, 1, 2, 3, 4] rfl
              have hD9 := hD.part (cx := [(aX, .inr (5, [.ref aM, .ref aY, .int xn, .ref aV])), (aM, .inl (cM, 1024, .inr (.inr (.inr (.inr xm))))), (aT, .inr (2, [.ref aK, .ref aG, .ref aE, .ref aW, .int tn, .int ts])), (aK, .inl (cK, 1024, .inl tk)), (aW, .inl (cW, 1024, .inr (.inl tw)))]) [0, 1, 2, 3, 4] (by decide) rfl
              exact W.zret (v := (0 : Int32)) (ty := .boolean) hx hb hr rfl (fun t ht hW => ⟨⟨(0 : Int32), (), rfl, ⟨rfl, rfl⟩, by rw [ht]; exact hP9, va_K.moved hW.alike hK, hD9⟩, hS.F ht⟩) hS.2.2 d_X_isExpression_102
        · rw [if_neg c_6] at hf
          refine lv_aload_n hx hb d_X_isExpression_29 rfl (lv_at hl 1 rfl) ?_
          refine lv_aload_n hx hb d_X_isExpression_30 rfl (lv_at hl 2 rfl) ?_
          refine lv_iload hx hb d_X_isExpression_31 (lv_at hl 6 rfl) ?_
          obtain ⟨o_17, hM_17, hf⟩ := bd_some hf
          refine cr_i (va_runV (As := [.ref aT, .int x5]) (rest := []) ⟨hx, hb, hml, hown, hts⟩ (c_X_isOperand l dC dI aX aM aY aV aC aP aO aT aK aG aE aW cM cK cW cB H.size xn xm tn ts tk tw ns x5 o_17 hM_17) (cwV 2 hts (gwV wb_316 wb_318 wb_319 wb_158 wb_317) rfl rfl rfl (by decide +kernel) ⟨Nat.le_of_ble_eq_true rfl, Nat.le_of_ble_eq_true rfl⟩) (pr_V (hP.part [0, 1, 2, 3, 4] rfl) (hD.part [0, 1, 2, 3, 4] (by decide) rfl) hK hN [0, 1, 2, 3] rfl (ci := 5) rfl rfl rfl) rfl rfl hl.1 rfl (lv_room (Nat.le_of_ble_eq_true rfl)) d_X_isExpression_33 ⟨Nat.zero_le _, Nat.zero_le _⟩) hP hD hS hA (in_pool [0, 1, 2, 3, 4] rfl) (fun r_17 H locs hw hP hS => ?_)
          obtain ⟨hw, hz_17⟩ := hw
          subst r_17
          refine lv_if_ne (tgt := 43) hx hb d_X_isExpression_36 (by decide) (fun c_18 => ?_) (fun c_18 => ?_)
          · rw [if_neg c_18] at hf
            refine lv_iconst (v := (0 : Int32)) hx hb d_X_isExpression_43 (by decide) ?_
            refine lv_istore_n (lv' := [(3, .int (0 : Int32)), (6, .int o_5), (0, .ref aX), (1, .ref aT), (2, .int x2), (4, .int x4), (5, .int x5)]) hx hb d_X_isExpression_44 rfl hl (by decide) rfl (fun ls hl => ?_)
            refine lv_iload_n hx hb d_X_isExpression_45 rfl (lv_at hl 0 rfl) ?_
            refine lv_if_eq (tgt := 66) hx hb d_X_isExpression_46 (by decide) (fun c_19 => ?_) (fun c_19 => ?_)
            · rw [if_pos c_19] at hf
              refine lv_iload hx hb d_X_isExpression_66 (lv_at hl 5 rfl) ?_
              refine lv_iload hx hb d_X_isExpression_68 (lv_at hl 1 rfl) ?_
              refine lv_bipush (v := (40 : Int32)) hx hb d_X_isExpression_70 (by decide) ?_
              refine lv_icmp_ne (tgt := 79) hx hb d_X_isExpression_72 (by decide) (fun c_20 => ?_) (fun c_20 => ?_)
              · rw [if_neg c_20] at hf
                refine lv_iconst (v := (0 : Int32)) hx hb d_X_isExpression_79 (by decide) ?_
                refine lv_iadd hx hb d_X_isExpression_80 ?_
                refine lv_istore (lv' := [(4, .int (x4 + (0 : Int32))), (3, .int (0 : Int32)), (6, .int o_5), (0, .ref aX), (1, .ref aT), (2, .int x2), (5, .int x5)]) hx hb d_X_isExpression_81 hl (by decide) rfl (fun ls hl => ?_)
                refine lv_goto (tgt := 134) hx hb d_X_isExpression_83 (by decide) ?_
                refine lv_iinc (v := x5 + (1 : Int32)) (lv' := [(5, .int (x5 + (1 : Int32))), (4, .int (x4 + (0 : Int32))), (3, .int (0 : Int32)), (6, .int o_5), (0, .ref aX), (1, .ref aT), (2, .int x2)]) hx hb d_X_isExpression_134 hl (k := 6) rfl rfl (by decide) rfl (fun ls hl => ?_)
                refine lv_goto (tgt := 8) hx hb d_X_isExpression_137 (by decide) ?_
                exact ih xm tn tk tw ns x2 (0 : Int32) (x4 + (0 : Int32)) (x5 + (1 : Int32)) H locs ls hf (hP.part (cx := [(aX, .inr (5, [.ref aM, .ref aY, .int xn, .ref aV])), (aM, .inl (cM, 1024, .inr (.inr (.inr (.inr xm))))), (aT, .inr (2, [.ref aK, .ref aG, .ref aE, .ref aW, .int tn, .int ts])), (aK, .inl (cK, 1024, .inl tk)), (aW, .inl (cW, 1024, .inr (.inl tw)))]) [0, 1, 2, 3, 4] rfl) (hD.part (cx := [(aX, .inr (5, [.ref aM, .ref aY, .int xn, .ref aV])), (aM, .inl (cM, 1024, .inr (.inr (.inr (.inr xm))))), (aT, .inr (2, [.ref aK, .ref aG, .ref aE, .ref aW, .int tn, .int ts])), (aK, .inl (cK, 1024, .inl tk)), (aW, .inl (cW, 1024, .inr (.inl tw)))]) [0, 1, 2, 3, 4] (by decide) rfl) hS (lv_sub hl [4, 5, 6, 2, 1, 0] rfl)
              · rw [if_pos c_20] at hf
                refine lv_iconst (v := (1 : Int32)) hx hb d_X_isExpression_75 (by decide) ?_
                refine lv_goto (tgt := 80) hx hb d_X_isExpression_76 (by decide) ?_
                refine lv_iadd hx hb d_X_isExpression_80 ?_
                refine lv_istore (lv' := [(4, .int (x4 + (1 : Int32))), (3, .int (0 : Int32)), (6, .int o_5), (0, .ref aX), (1, .ref aT), (2, .int x2), (5, .int x5)]) hx hb d_X_isExpression_81 hl (by decide) rfl (fun ls hl => ?_)
                refine lv_goto (tgt := 134) hx hb d_X_isExpression_83 (by decide) ?_
                refine lv_iinc (v := x5 + (1 : Int32)) (lv' := [(5, .int (x5 + (1 : Int32))), (4, .int (x4 + (1 : Int32))), (3, .int (0 : Int32)), (6, .int o_5), (0, .ref aX), (1, .ref aT), (2, .int x2)]) hx hb d_X_isExpression_134 hl (k := 6) rfl rfl (by decide) rfl (fun ls hl => ?_)
                refine lv_goto (tgt := 8) hx hb d_X_isExpression_137 (by decide) ?_
                exact ih xm tn tk tw ns x2 (0 : Int32) (x4 + (1 : Int32)) (x5 + (1 : Int32)) H locs ls hf (hP.part (cx := [(aX, .inr (5, [.ref aM, .ref aY, .int xn, .ref aV])), (aM, .inl (cM, 1024, .inr (.inr (.inr (.inr xm))))), (aT, .inr (2, [.ref aK, .ref aG, .ref aE, .ref aW, .int tn, .int ts])), (aK, .inl (cK, 1024, .inl tk)), (aW, .inl (cW, 1024, .inr (.inl tw)))]) [0, 1, 2, 3, 4] rfl) (hD.part (cx := [(aX, .inr (5, [.ref aM, .ref aY, .int xn, .ref aV])), (aM, .inl (cM, 1024, .inr (.inr (.inr (.inr xm))))), (aT, .inr (2, [.ref aK, .ref aG, .ref aE, .ref aW, .int tn, .int ts])), (aK, .inl (cK, 1024, .inl tk)), (aW, .inl (cW, 1024, .inr (.inl tw)))]) [0, 1, 2, 3, 4] (by decide) rfl) hS (lv_sub hl [4, 5, 6, 2, 1, 0] rfl)
            · rw [if_neg c_19] at hf
              refine lv_iload hx hb d_X_isExpression_49 (lv_at hl 1 rfl) ?_
              refine lv_bipush (v := (40 : Int32)) hx hb d_X_isExpression_51 (by decide) ?_
              refine lv_icmp_eq (tgt := 66) hx hb d_X_isExpression_53 (by decide) (fun c_21 => ?_) (fun c_21 => ?_)
              · rw [if_pos c_21] at hf
                refine lv_iload hx hb d_X_isExpression_66 (lv_at hl 5 rfl) ?_
                refine lv_iload hx hb d_X_isExpression_68 (lv_at hl 1 rfl) ?_
                refine lv_bipush (v := (40 : Int32)) hx hb d_X_isExpression_70 (by decide) ?_
                refine lv_icmp_ne (tgt := 79) hx hb d_X_isExpression_72 (by decide) (fun c_22 => ?_) (fun c_22 => ?_)
                · rw [if_neg c_22] at hf
                  refine lv_iconst (v := (0 : Int32)) hx hb d_X_isExpression_79 (by decide) ?_
                  refine lv_iadd hx hb d_X_isExpression_80 ?_
                  refine lv_istore (lv' := [(4, .int (x4 + (0 : Int32))), (3, .int (0 : Int32)), (6, .int o_5), (0, .ref aX), (1, .ref aT), (2, .int x2), (5, .int x5)]) hx hb d_X_isExpression_81 hl (by decide) rfl (fun ls hl => ?_)
                  refine lv_goto (tgt := 134) hx hb d_X_isExpression_83 (by decide) ?_
                  refine lv_iinc (v := x5 + (1 : Int32)) (lv' := [(5, .int (x5 + (1 : Int32))), (4, .int (x4 + (0 : Int32))), (3, .int (0 : Int32)), (6, .int o_5), (0, .ref aX), (1, .ref aT), (2, .int x2)]) hx hb d_X_isExpression_134 hl (k := 6) rfl rfl (by decide) rfl (fun ls hl => ?_)
                  refine lv_goto (tgt := 8) hx hb d_X_isExpression_137 (by decide) ?_
                  exact ih xm tn tk tw ns x2 (0 : Int32) (x4 + (0 : Int32)) (x5 + (1 : Int32)) H locs ls hf (hP.part (cx := [(aX, .inr (5, [.ref aM, .ref aY, .int xn, .ref aV])), (aM, .inl (cM, 1024, .inr (.inr (.inr (.inr xm))))), (aT, .inr (2, [.ref aK, .ref aG, .ref aE, .ref aW, .int tn, .int ts])), (aK, .inl (cK, 1024, .inl tk)), (aW, .inl (cW, 1024, .inr (.inl tw)))]) [0, 1, 2, 3, 4] rfl) (hD.part (cx := [(aX, .inr (5, [.ref aM, .ref aY, .int xn, .ref aV])), (aM, .inl (cM, 1024, .inr (.inr (.inr (.inr xm))))), (aT, .inr (2, [.ref aK, .ref aG, .ref aE, .ref aW, .int tn, .int ts])), (aK, .inl (cK, 1024, .inl tk)), (aW, .inl (cW, 1024, .inr (.inl tw)))]) [0, 1, 2, 3, 4] (by decide) rfl) hS (lv_sub hl [4, 5, 6, 2, 1, 0] rfl)
                · rw [if_pos c_22] at hf
                  refine lv_iconst (v := (1 : Int32)) hx hb d_X_isExpression_75 (by decide) ?_
                  refine lv_goto (tgt := 80) hx hb d_X_isExpression_76 (by decide) ?_
                  refine lv_iadd hx hb d_X_isExpression_80 ?_
                  refine lv_istore (lv' := [(4, .int (x4 + (1 : Int32))), (3, .int (0 : Int32)), (6, .int o_5), (0, .ref aX), (1, .ref aT), (2, .int x2), (5, .int x5)]) hx hb d_X_isExpression_81 hl (by decide) rfl (fun ls hl => ?_)
                  refine lv_goto (tgt := 134) hx hb d_X_isExpression_83 (by decide) ?_
                  refine lv_iinc (v := x5 + (1 : Int32)) (lv' := [(5, .int (x5 + (1 : Int32))), (4, .int (x4 + (1 : Int32))), (3, .int (0 : Int32)), (6, .int o_5), (0, .ref aX), (1, .ref aT), (2, .int x2)]) hx hb d_X_isExpression_134 hl (k := 6) rfl rfl (by decide) rfl (fun ls hl => ?_)
                  refine lv_goto (tgt := 8) hx hb d_X_isExpression_137 (by decide) ?_
                  exact ih xm tn tk tw ns x2 (0 : Int32) (x4 + (1 : Int32)) (x5 + (1 : Int32)) H locs ls hf (hP.part (cx := [(aX, .inr (5, [.ref aM, .ref aY, .int xn, .ref aV])), (aM, .inl (cM, 1024, .inr (.inr (.inr (.inr xm))))), (aT, .inr (2, [.ref aK, .ref aG, .ref aE, .ref aW, .int tn, .int ts])), (aK, .inl (cK, 1024, .inl tk)), (aW, .inl (cW, 1024, .inr (.inl tw)))]) [0, 1, 2, 3, 4] rfl) (hD.part (cx := [(aX, .inr (5, [.ref aM, .ref aY, .int xn, .ref aV])), (aM, .inl (cM, 1024, .inr (.inr (.inr (.inr xm))))), (aT, .inr (2, [.ref aK, .ref aG, .ref aE, .ref aW, .int tn, .int ts])), (aK, .inl (cK, 1024, .inl tk)), (aW, .inl (cW, 1024, .inr (.inl tw)))]) [0, 1, 2, 3, 4] (by decide) rfl) hS (lv_sub hl [4, 5, 6, 2, 1, 0] rfl)
              · rw [if_neg c_21] at hf
                refine lv_iload hx hb d_X_isExpression_56 (lv_at hl 1 rfl) ?_
                obtain ⟨o_23, hM_23, hf⟩ := bd_some hf
                refine cr_i (va_runS (As := [.int o_5]) (rest := []) ⟨hx, hb, hml, hown, hts⟩ (c_X_isPrefix l dC dI   H.size  o_5 o_23 hM_23) (va_cwS 1 hts (gwS wb_320 wb_322 wb_158 wb_321) rfl rfl rfl (by decide +kernel) ⟨Nat.le_of_ble_eq_true rfl, Nat.le_of_ble_eq_true rfl⟩) (pr_S (hP.sub [] rfl) (hD.sub [] (by decide) rfl) hK hN [] rfl) rfl rfl hl.1 rfl (lv_room (Nat.le_of_ble_eq_true rfl)) d_X_isExpression_58 ⟨Nat.zero_le _, Nat.zero_le _⟩) hP hD hS hA (in_of [] rfl) (fun r_23 H locs hw hP hS => ?_)
                obtain ⟨hw, hz_23⟩ := hw
                subst r_23
                refine lv_if_ne (tgt := 66) hx hb d_X_isExpression_61 (by decide) (fun c_24 => ?_) (fun c_24 => ?_)
                · rw [if_neg c_24] at hf
                  refine lv_iload hx hb d_X_isExpression_66 (lv_at hl 5 rfl) ?_
                  refine lv_iload hx hb d_X_isExpression_68 (lv_at hl 1 rfl) ?_
                  refine lv_bipush (v := (40 : Int32)) hx hb d_X_isExpression_70 (by decide) ?_
                  refine lv_icmp_ne (tgt := 79) hx hb d_X_isExpression_72 (by decide) (fun c_25 => ?_) (fun c_25 => ?_)
                  · rw [if_neg c_25] at hf
                    refine lv_iconst (v := (0 : Int32)) hx hb d_X_isExpression_79 (by decide) ?_
                    refine lv_iadd hx hb d_X_isExpression_80 ?_
                    refine lv_istore (lv' := [(4, .int (x4 + (0 : Int32))), (3, .int (0 : Int32)), (6, .int o_5), (0, .ref aX), (1, .ref aT), (2, .int x2), (5, .int x5)]) hx hb d_X_isExpression_81 hl (by decide) rfl (fun ls hl => ?_)
                    refine lv_goto (tgt := 134) hx hb d_X_isExpression_83 (by decide) ?_
                    refine lv_iinc (v := x5 + (1 : Int32)) (lv' := [(5, .int (x5 + (1 : Int32))), (4, .int (x4 + (0 : Int32))), (3, .int (0 : Int32)), (6, .int o_5), (0, .ref aX), (1, .ref aT), (2, .int x2)]) hx hb d_X_isExpression_134 hl (k := 6) rfl rfl (by decide) rfl (fun ls hl => ?_)
                    refine lv_goto (tgt := 8) hx hb d_X_isExpression_137 (by decide) ?_
                    exact ih xm tn tk tw ns x2 (0 : Int32) (x4 + (0 : Int32)) (x5 + (1 : Int32)) H locs ls hf (hP.part (cx := [(aX, .inr (5, [.ref aM, .ref aY, .int xn, .ref aV])), (aM, .inl (cM, 1024, .inr (.inr (.inr (.inr xm))))), (aT, .inr (2, [.ref aK, .ref aG, .ref aE, .ref aW, .int tn, .int ts])), (aK, .inl (cK, 1024, .inl tk)), (aW, .inl (cW, 1024, .inr (.inl tw)))]) [0, 1, 2, 3, 4] rfl) (hD.part (cx := [(aX, .inr (5, [.ref aM, .ref aY, .int xn, .ref aV])), (aM, .inl (cM, 1024, .inr (.inr (.inr (.inr xm))))), (aT, .inr (2, [.ref aK, .ref aG, .ref aE, .ref aW, .int tn, .int ts])), (aK, .inl (cK, 1024, .inl tk)), (aW, .inl (cW, 1024, .inr (.inl tw)))]) [0, 1, 2, 3, 4] (by decide) rfl) hS (lv_sub hl [4, 5, 6, 2, 1, 0] rfl)
                  · rw [if_pos c_25] at hf
                    refine lv_iconst (v := (1 : Int32)) hx hb d_X_isExpression_75 (by decide) ?_
                    refine lv_goto (tgt := 80) hx hb d_X_isExpression_76 (by decide) ?_
                    refine lv_iadd hx hb d_X_isExpression_80 ?_
                    refine lv_istore (lv' := [(4, .int (x4 + (1 : Int32))), (3, .int (0 : Int32)), (6, .int o_5), (0, .ref aX), (1, .ref aT), (2, .int x2), (5, .int x5)]) hx hb d_X_isExpression_81 hl (by decide) rfl (fun ls hl => ?_)
                    refine lv_goto (tgt := 134) hx hb d_X_isExpression_83 (by decide) ?_
                    refine lv_iinc (v := x5 + (1 : Int32)) (lv' := [(5, .int (x5 + (1 : Int32))), (4, .int (x4 + (1 : Int32))), (3, .int (0 : Int32)), (6, .int o_5), (0, .ref aX), (1, .ref aT), (2, .int x2)]) hx hb d_X_isExpression_134 hl (k := 6) rfl rfl (by decide) rfl (fun ls hl => ?_)
                    refine lv_goto (tgt := 8) hx hb d_X_isExpression_137 (by decide) ?_
                    exact ih xm tn tk tw ns x2 (0 : Int32) (x4 + (1 : Int32)) (x5 + (1 : Int32)) H locs ls hf (hP.part (cx := [(aX, .inr (5, [.ref aM, .ref aY, .int xn, .ref aV])), (aM, .inl (cM, 1024, .inr (.inr (.inr (.inr xm))))), (aT, .inr (2, [.ref aK, .ref aG, .ref aE, .ref aW, .int tn, .int ts])), (aK, .inl (cK, 1024, .inl tk)), (aW, .inl (cW, 1024, .inr (.inl tw)))]) [0, 1, 2, 3, 4] rfl) (hD.part (cx := [(aX, .inr (5, [.ref aM, .ref aY, .int xn, .ref aV])), (aM, .inl (cM, 1024, .inr (.inr (.inr (.inr xm))))), (aT, .inr (2, [.ref aK, .ref aG, .ref aE, .ref aW, .int tn, .int ts])), (aK, .inl (cK, 1024, .inl tk)), (aW, .inl (cW, 1024, .inr (.inl tw)))]) [0, 1, 2, 3, 4] (by decide) rfl) hS (lv_sub hl [4, 5, 6, 2, 1, 0] rfl)
                · rw [if_pos c_24] at hf
                  refine lv_iconst (v := (0 : Int32)) hx hb d_X_isExpression_64 (by decide) ?_
                  have ho := Option.some.inj hf
                  subst o
                  have hP9 := hP.part (cx := [(aX, .inr (5, [.ref aM, .ref aY, .int xn, .ref aV])), (aM, .inl (cM, 1024, .inr (.inr (.inr (.inr xm))))), (aT, .inr (2, [.ref aK, .ref aG, .ref aE, .ref aW, .int tn, .int ts])), (aK, .inl (cK, 1024, .inl tk)), (aW, .inl (cW, 1024, .inr (.inl tw)))]) [0, 1, 2, 3, 4] rfl
                  have hD9 := hD.part (cx := [(aX, .inr (5, [.ref aM, .ref aY, .int xn, .ref aV])), (aM, .inl (cM, 1024, .inr (.inr (.inr (.inr xm))))), (aT, .inr (2, [.ref aK, .ref aG, .ref aE, .ref aW, .int tn, .int ts])), (aK, .inl (cK, 1024, .inl tk)), (aW, .inl (cW, 1024, .inr (.inl tw)))]) [0, 1, 2, 3, 4] (by decide) rfl
                  exact W.zret (v := (0 : Int32)) (ty := .boolean) hx hb hr rfl (fun t ht hW => ⟨⟨(0 : Int32), (), rfl, ⟨rfl, rfl⟩, by rw [ht]; exact hP9, va_K.moved hW.alike hK, hD9⟩, hS.F ht⟩) hS.2.2 d_X_isExpression_65
          · rw [if_pos c_18] at hf
            refine lv_iconst (v := (1 : Int32)) hx hb d_X_isExpression_39 (by decide) ?_
            refine lv_goto (tgt := 44) hx hb d_X_isExpression_40 (by decide) ?_
            refine lv_istore_n (lv' := [(3, .int (1 : Int32)), (6, .int o_5), (0, .ref aX), (1, .ref aT), (2, .int x2), (4, .int x4), (5, .int x5)]) hx hb d_X_isExpression_44 rfl hl (by decide) rfl (fun ls hl => ?_)
            refine lv_iload_n hx hb d_X_isExpression_45 rfl (lv_at hl 0 rfl) ?_
            refine lv_if_eq (tgt := 66) hx hb d_X_isExpression_46 (by decide) (fun c_26 => ?_) (fun c_26 => ?_)
            · rw [if_pos c_26] at hf
              refine lv_iload hx hb d_X_isExpression_66 (lv_at hl 5 rfl) ?_
              refine lv_iload hx hb d_X_isExpression_68 (lv_at hl 1 rfl) ?_
              refine lv_bipush (v := (40 : Int32)) hx hb d_X_isExpression_70 (by decide) ?_
              refine lv_icmp_ne (tgt := 79) hx hb d_X_isExpression_72 (by decide) (fun c_27 => ?_) (fun c_27 => ?_)
              · rw [if_neg c_27] at hf
                refine lv_iconst (v := (0 : Int32)) hx hb d_X_isExpression_79 (by decide) ?_
                refine lv_iadd hx hb d_X_isExpression_80 ?_
                refine lv_istore (lv' := [(4, .int (x4 + (0 : Int32))), (3, .int (1 : Int32)), (6, .int o_5), (0, .ref aX), (1, .ref aT), (2, .int x2), (5, .int x5)]) hx hb d_X_isExpression_81 hl (by decide) rfl (fun ls hl => ?_)
                refine lv_goto (tgt := 134) hx hb d_X_isExpression_83 (by decide) ?_
                refine lv_iinc (v := x5 + (1 : Int32)) (lv' := [(5, .int (x5 + (1 : Int32))), (4, .int (x4 + (0 : Int32))), (3, .int (1 : Int32)), (6, .int o_5), (0, .ref aX), (1, .ref aT), (2, .int x2)]) hx hb d_X_isExpression_134 hl (k := 6) rfl rfl (by decide) rfl (fun ls hl => ?_)
                refine lv_goto (tgt := 8) hx hb d_X_isExpression_137 (by decide) ?_
                exact ih xm tn tk tw ns x2 (1 : Int32) (x4 + (0 : Int32)) (x5 + (1 : Int32)) H locs ls hf (hP.part (cx := [(aX, .inr (5, [.ref aM, .ref aY, .int xn, .ref aV])), (aM, .inl (cM, 1024, .inr (.inr (.inr (.inr xm))))), (aT, .inr (2, [.ref aK, .ref aG, .ref aE, .ref aW, .int tn, .int ts])), (aK, .inl (cK, 1024, .inl tk)), (aW, .inl (cW, 1024, .inr (.inl tw)))]) [0, 1, 2, 3, 4] rfl) (hD.part (cx := [(aX, .inr (5, [.ref aM, .ref aY, .int xn, .ref aV])), (aM, .inl (cM, 1024, .inr (.inr (.inr (.inr xm))))), (aT, .inr (2, [.ref aK, .ref aG, .ref aE, .ref aW, .int tn, .int ts])), (aK, .inl (cK, 1024, .inl tk)), (aW, .inl (cW, 1024, .inr (.inl tw)))]) [0, 1, 2, 3, 4] (by decide) rfl) hS (lv_sub hl [4, 5, 6, 2, 1, 0] rfl)
              · rw [if_pos c_27] at hf
                refine lv_iconst (v := (1 : Int32)) hx hb d_X_isExpression_75 (by decide) ?_
                refine lv_goto (tgt := 80) hx hb d_X_isExpression_76 (by decide) ?_
                refine lv_iadd hx hb d_X_isExpression_80 ?_
                refine lv_istore (lv' := [(4, .int (x4 + (1 : Int32))), (3, .int (1 : Int32)), (6, .int o_5), (0, .ref aX), (1, .ref aT), (2, .int x2), (5, .int x5)]) hx hb d_X_isExpression_81 hl (by decide) rfl (fun ls hl => ?_)
                refine lv_goto (tgt := 134) hx hb d_X_isExpression_83 (by decide) ?_
                refine lv_iinc (v := x5 + (1 : Int32)) (lv' := [(5, .int (x5 + (1 : Int32))), (4, .int (x4 + (1 : Int32))), (3, .int (1 : Int32)), (6, .int o_5), (0, .ref aX), (1, .ref aT), (2, .int x2)]) hx hb d_X_isExpression_134 hl (k := 6) rfl rfl (by decide) rfl (fun ls hl => ?_)
                refine lv_goto (tgt := 8) hx hb d_X_isExpression_137 (by decide) ?_
                exact ih xm tn tk tw ns x2 (1 : Int32) (x4 + (1 : Int32)) (x5 + (1 : Int32)) H locs ls hf (hP.part (cx := [(aX, .inr (5, [.ref aM, .ref aY, .int xn, .ref aV])), (aM, .inl (cM, 1024, .inr (.inr (.inr (.inr xm))))), (aT, .inr (2, [.ref aK, .ref aG, .ref aE, .ref aW, .int tn, .int ts])), (aK, .inl (cK, 1024, .inl tk)), (aW, .inl (cW, 1024, .inr (.inl tw)))]) [0, 1, 2, 3, 4] rfl) (hD.part (cx := [(aX, .inr (5, [.ref aM, .ref aY, .int xn, .ref aV])), (aM, .inl (cM, 1024, .inr (.inr (.inr (.inr xm))))), (aT, .inr (2, [.ref aK, .ref aG, .ref aE, .ref aW, .int tn, .int ts])), (aK, .inl (cK, 1024, .inl tk)), (aW, .inl (cW, 1024, .inr (.inl tw)))]) [0, 1, 2, 3, 4] (by decide) rfl) hS (lv_sub hl [4, 5, 6, 2, 1, 0] rfl)
            · rw [if_neg c_26] at hf
              refine lv_iload hx hb d_X_isExpression_49 (lv_at hl 1 rfl) ?_
              refine lv_bipush (v := (40 : Int32)) hx hb d_X_isExpression_51 (by decide) ?_
              refine lv_icmp_eq (tgt := 66) hx hb d_X_isExpression_53 (by decide) (fun c_28 => ?_) (fun c_28 => ?_)
              · rw [if_pos c_28] at hf
                refine lv_iload hx hb d_X_isExpression_66 (lv_at hl 5 rfl) ?_
                refine lv_iload hx hb d_X_isExpression_68 (lv_at hl 1 rfl) ?_
                refine lv_bipush (v := (40 : Int32)) hx hb d_X_isExpression_70 (by decide) ?_
                refine lv_icmp_ne (tgt := 79) hx hb d_X_isExpression_72 (by decide) (fun c_29 => ?_) (fun c_29 => ?_)
                · rw [if_neg c_29] at hf
                  refine lv_iconst (v := (0 : Int32)) hx hb d_X_isExpression_79 (by decide) ?_
                  refine lv_iadd hx hb d_X_isExpression_80 ?_
                  refine lv_istore (lv' := [(4, .int (x4 + (0 : Int32))), (3, .int (1 : Int32)), (6, .int o_5), (0, .ref aX), (1, .ref aT), (2, .int x2), (5, .int x5)]) hx hb d_X_isExpression_81 hl (by decide) rfl (fun ls hl => ?_)
                  refine lv_goto (tgt := 134) hx hb d_X_isExpression_83 (by decide) ?_
                  refine lv_iinc (v := x5 + (1 : Int32)) (lv' := [(5, .int (x5 + (1 : Int32))), (4, .int (x4 + (0 : Int32))), (3, .int (1 : Int32)), (6, .int o_5), (0, .ref aX), (1, .ref aT), (2, .int x2)]) hx hb d_X_isExpression_134 hl (k := 6) rfl rfl (by decide) rfl (fun ls hl => ?_)
                  refine lv_goto (tgt := 8) hx hb d_X_isExpression_137 (by decide) ?_
                  exact ih xm tn tk tw ns x2 (1 : Int32) (x4 + (0 : Int32)) (x5 + (1 : Int32)) H locs ls hf (hP.part (cx := [(aX, .inr (5, [.ref aM, .ref aY, .int xn, .ref aV])), (aM, .inl (cM, 1024, .inr (.inr (.inr (.inr xm))))), (aT, .inr (2, [.ref aK, .ref aG, .ref aE, .ref aW, .int tn, .int ts])), (aK, .inl (cK, 1024, .inl tk)), (aW, .inl (cW, 1024, .inr (.inl tw)))]) [0, 1, 2, 3, 4] rfl) (hD.part (cx := [(aX, .inr (5, [.ref aM, .ref aY, .int xn, .ref aV])), (aM, .inl (cM, 1024, .inr (.inr (.inr (.inr xm))))), (aT, .inr (2, [.ref aK, .ref aG, .ref aE, .ref aW, .int tn, .int ts])), (aK, .inl (cK, 1024, .inl tk)), (aW, .inl (cW, 1024, .inr (.inl tw)))]) [0, 1, 2, 3, 4] (by decide) rfl) hS (lv_sub hl [4, 5, 6, 2, 1, 0] rfl)
                · rw [if_pos c_29] at hf
                  refine lv_iconst (v := (1 : Int32)) hx hb d_X_isExpression_75 (by decide) ?_
                  refine lv_goto (tgt := 80) hx hb d_X_isExpression_76 (by decide) ?_
                  refine lv_iadd hx hb d_X_isExpression_80 ?_
                  refine lv_istore (lv' := [(4, .int (x4 + (1 : Int32))), (3, .int (1 : Int32)), (6, .int o_5), (0, .ref aX), (1, .ref aT), (2, .int x2), (5, .int x5)]) hx hb d_X_isExpression_81 hl (by decide) rfl (fun ls hl => ?_)
                  refine lv_goto (tgt := 134) hx hb d_X_isExpression_83 (by decide) ?_
                  refine lv_iinc (v := x5 + (1 : Int32)) (lv' := [(5, .int (x5 + (1 : Int32))), (4, .int (x4 + (1 : Int32))), (3, .int (1 : Int32)), (6, .int o_5), (0, .ref aX), (1, .ref aT), (2, .int x2)]) hx hb d_X_isExpression_134 hl (k := 6) rfl rfl (by decide) rfl (fun ls hl => ?_)
                  refine lv_goto (tgt := 8) hx hb d_X_isExpression_137 (by decide) ?_
                  exact ih xm tn tk tw ns x2 (1 : Int32) (x4 + (1 : Int32)) (x5 + (1 : Int32)) H locs ls hf (hP.part (cx := [(aX, .inr (5, [.ref aM, .ref aY, .int xn, .ref aV])), (aM, .inl (cM, 1024, .inr (.inr (.inr (.inr xm))))), (aT, .inr (2, [.ref aK, .ref aG, .ref aE, .ref aW, .int tn, .int ts])), (aK, .inl (cK, 1024, .inl tk)), (aW, .inl (cW, 1024, .inr (.inl tw)))]) [0, 1, 2, 3, 4] rfl) (hD.part (cx := [(aX, .inr (5, [.ref aM, .ref aY, .int xn, .ref aV])), (aM, .inl (cM, 1024, .inr (.inr (.inr (.inr xm))))), (aT, .inr (2, [.ref aK, .ref aG, .ref aE, .ref aW, .int tn, .int ts])), (aK, .inl (cK, 1024, .inl tk)), (aW, .inl (cW, 1024, .inr (.inl tw)))]) [0, 1, 2, 3, 4] (by decide) rfl) hS (lv_sub hl [4, 5, 6, 2, 1, 0] rfl)
              · rw [if_neg c_28] at hf
                refine lv_iload hx hb d_X_isExpression_56 (lv_at hl 1 rfl) ?_
                obtain ⟨o_30, hM_30, hf⟩ := bd_some hf
                refine cr_i (va_runS (As := [.int o_5]) (rest := []) ⟨hx, hb, hml, hown, hts⟩ (c_X_isPrefix l dC dI   H.size  o_5 o_30 hM_30) (va_cwS 1 hts (gwS wb_320 wb_322 wb_158 wb_321) rfl rfl rfl (by decide +kernel) ⟨Nat.le_of_ble_eq_true rfl, Nat.le_of_ble_eq_true rfl⟩) (pr_S (hP.sub [] rfl) (hD.sub [] (by decide) rfl) hK hN [] rfl) rfl rfl hl.1 rfl (lv_room (Nat.le_of_ble_eq_true rfl)) d_X_isExpression_58 ⟨Nat.zero_le _, Nat.zero_le _⟩) hP hD hS hA (in_of [] rfl) (fun r_30 H locs hw hP hS => ?_)
                obtain ⟨hw, hz_30⟩ := hw
                subst r_30
                refine lv_if_ne (tgt := 66) hx hb d_X_isExpression_61 (by decide) (fun c_31 => ?_) (fun c_31 => ?_)
                · rw [if_neg c_31] at hf
                  refine lv_iload hx hb d_X_isExpression_66 (lv_at hl 5 rfl) ?_
                  refine lv_iload hx hb d_X_isExpression_68 (lv_at hl 1 rfl) ?_
                  refine lv_bipush (v := (40 : Int32)) hx hb d_X_isExpression_70 (by decide) ?_
                  refine lv_icmp_ne (tgt := 79) hx hb d_X_isExpression_72 (by decide) (fun c_32 => ?_) (fun c_32 => ?_)
                  · rw [if_neg c_32] at hf
                    refine lv_iconst (v := (0 : Int32)) hx hb d_X_isExpression_79 (by decide) ?_
                    refine lv_iadd hx hb d_X_isExpression_80 ?_
                    refine lv_istore (lv' := [(4, .int (x4 + (0 : Int32))), (3, .int (1 : Int32)), (6, .int o_5), (0, .ref aX), (1, .ref aT), (2, .int x2), (5, .int x5)]) hx hb d_X_isExpression_81 hl (by decide) rfl (fun ls hl => ?_)
                    refine lv_goto (tgt := 134) hx hb d_X_isExpression_83 (by decide) ?_
                    refine lv_iinc (v := x5 + (1 : Int32)) (lv' := [(5, .int (x5 + (1 : Int32))), (4, .int (x4 + (0 : Int32))), (3, .int (1 : Int32)), (6, .int o_5), (0, .ref aX), (1, .ref aT), (2, .int x2)]) hx hb d_X_isExpression_134 hl (k := 6) rfl rfl (by decide) rfl (fun ls hl => ?_)
                    refine lv_goto (tgt := 8) hx hb d_X_isExpression_137 (by decide) ?_
                    exact ih xm tn tk tw ns x2 (1 : Int32) (x4 + (0 : Int32)) (x5 + (1 : Int32)) H locs ls hf (hP.part (cx := [(aX, .inr (5, [.ref aM, .ref aY, .int xn, .ref aV])), (aM, .inl (cM, 1024, .inr (.inr (.inr (.inr xm))))), (aT, .inr (2, [.ref aK, .ref aG, .ref aE, .ref aW, .int tn, .int ts])), (aK, .inl (cK, 1024, .inl tk)), (aW, .inl (cW, 1024, .inr (.inl tw)))]) [0, 1, 2, 3, 4] rfl) (hD.part (cx := [(aX, .inr (5, [.ref aM, .ref aY, .int xn, .ref aV])), (aM, .inl (cM, 1024, .inr (.inr (.inr (.inr xm))))), (aT, .inr (2, [.ref aK, .ref aG, .ref aE, .ref aW, .int tn, .int ts])), (aK, .inl (cK, 1024, .inl tk)), (aW, .inl (cW, 1024, .inr (.inl tw)))]) [0, 1, 2, 3, 4] (by decide) rfl) hS (lv_sub hl [4, 5, 6, 2, 1, 0] rfl)
                  · rw [if_pos c_32] at hf
                    refine lv_iconst (v := (1 : Int32)) hx hb d_X_isExpression_75 (by decide) ?_
                    refine lv_goto (tgt := 80) hx hb d_X_isExpression_76 (by decide) ?_
                    refine lv_iadd hx hb d_X_isExpression_80 ?_
                    refine lv_istore (lv' := [(4, .int (x4 + (1 : Int32))), (3, .int (1 : Int32)), (6, .int o_5), (0, .ref aX), (1, .ref aT), (2, .int x2), (5, .int x5)]) hx hb d_X_isExpression_81 hl (by decide) rfl (fun ls hl => ?_)
                    refine lv_goto (tgt := 134) hx hb d_X_isExpression_83 (by decide) ?_
                    refine lv_iinc (v := x5 + (1 : Int32)) (lv' := [(5, .int (x5 + (1 : Int32))), (4, .int (x4 + (1 : Int32))), (3, .int (1 : Int32)), (6, .int o_5), (0, .ref aX), (1, .ref aT), (2, .int x2)]) hx hb d_X_isExpression_134 hl (k := 6) rfl rfl (by decide) rfl (fun ls hl => ?_)
                    refine lv_goto (tgt := 8) hx hb d_X_isExpression_137 (by decide) ?_
                    exact ih xm tn tk tw ns x2 (1 : Int32) (x4 + (1 : Int32)) (x5 + (1 : Int32)) H locs ls hf (hP.part (cx := [(aX, .inr (5, [.ref aM, .ref aY, .int xn, .ref aV])), (aM, .inl (cM, 1024, .inr (.inr (.inr (.inr xm))))), (aT, .inr (2, [.ref aK, .ref aG, .ref aE, .ref aW, .int tn, .int ts])), (aK, .inl (cK, 1024, .inl tk)), (aW, .inl (cW, 1024, .inr (.inl tw)))]) [0, 1, 2, 3, 4] rfl) (hD.part (cx := [(aX, .inr (5, [.ref aM, .ref aY, .int xn, .ref aV])), (aM, .inl (cM, 1024, .inr (.inr (.inr (.inr xm))))), (aT, .inr (2, [.ref aK, .ref aG, .ref aE, .ref aW, .int tn, .int ts])), (aK, .inl (cK, 1024, .inl tk)), (aW, .inl (cW, 1024, .inr (.inl tw)))]) [0, 1, 2, 3, 4] (by decide) rfl) hS (lv_sub hl [4, 5, 6, 2, 1, 0] rfl)
                · rw [if_pos c_31] at hf
                  refine lv_iconst (v := (0 : Int32)) hx hb d_X_isExpression_64 (by decide) ?_
                  have ho := Option.some.inj hf
                  subst o
                  have hP9 := hP.part (cx := [(aX, .inr (5, [.ref aM, .ref aY, .int xn, .ref aV])), (aM, .inl (cM, 1024, .inr (.inr (.inr (.inr xm))))), (aT, .inr (2, [.ref aK, .ref aG, .ref aE, .ref aW, .int tn, .int ts])), (aK, .inl (cK, 1024, .inl tk)), (aW, .inl (cW, 1024, .inr (.inl tw)))]) [0, 1, 2, 3, 4] rfl
                  have hD9 := hD.part (cx := [(aX, .inr (5, [.ref aM, .ref aY, .int xn, .ref aV])), (aM, .inl (cM, 1024, .inr (.inr (.inr (.inr xm))))), (aT, .inr (2, [.ref aK, .ref aG, .ref aE, .ref aW, .int tn, .int ts])), (aK, .inl (cK, 1024, .inl tk)), (aW, .inl (cW, 1024, .inr (.inl tw)))]) [0, 1, 2, 3, 4] (by decide) rfl
                  exact W.zret (v := (0 : Int32)) (ty := .boolean) hx hb hr rfl (fun t ht hW => ⟨⟨(0 : Int32), (), rfl, ⟨rfl, rfl⟩, by rw [ht]; exact hP9, va_K.moved hW.alike hK, hD9⟩, hS.F ht⟩) hS.2.2 d_X_isExpression_65
  rw [f_X_isExpression] at hf
  refine lv_iconst (v := (1 : Int32)) hx hb d_X_isExpression_0 (by decide) ?_
  refine lv_istore_n (lv' := [(3, .int (1 : Int32)), (0, .ref aX), (1, .ref aT), (2, .int p1)]) hx hb d_X_isExpression_1 rfl hl (by decide) rfl (fun ls hl => ?_)
  refine lv_iconst (v := (0 : Int32)) hx hb d_X_isExpression_2 (by decide) ?_
  refine lv_istore (lv' := [(4, .int (0 : Int32)), (3, .int (1 : Int32)), (0, .ref aX), (1, .ref aT), (2, .int p1)]) hx hb d_X_isExpression_3 hl (by decide) rfl (fun ls hl => ?_)
  refine lv_iconst (v := (0 : Int32)) hx hb d_X_isExpression_5 (by decide) ?_
  refine lv_istore (lv' := [(5, .int (0 : Int32)), (4, .int (0 : Int32)), (3, .int (1 : Int32)), (0, .ref aX), (1, .ref aT), (2, .int p1)]) hx hb d_X_isExpression_6 hl (by decide) rfl (fun ls hl => ?_)
  exact loop_8 FU xm tn tk tw ns p1 (1 : Int32) (0 : Int32) (0 : Int32) s.heap [] ls hf (hP.part (cx := [(aX, .inr (5, [.ref aM, .ref aY, .int xn, .ref aV])), (aM, .inl (cM, 1024, .inr (.inr (.inr (.inr xm))))), (aT, .inr (2, [.ref aK, .ref aG, .ref aE, .ref aW, .int tn, .int ts])), (aK, .inl (cK, 1024, .inl tk)), (aW, .inl (cW, 1024, .inr (.inl tw)))]) [0, 1, 2, 3, 4] rfl) (hD.part (cx := [(aX, .inr (5, [.ref aM, .ref aY, .int xn, .ref aV])), (aM, .inl (cM, 1024, .inr (.inr (.inr (.inr xm))))), (aT, .inr (2, [.ref aK, .ref aG, .ref aE, .ref aW, .int tn, .int ts])), (aK, .inl (cK, 1024, .inl tk)), (aW, .inl (cW, 1024, .inr (.inl tw)))]) [0, 1, 2, 3, 4] (by decide) rfl) hS (lv_sub hl [3, 4, 5, 2, 1, 0] rfl)

def f_X_pushOperand (xm : Nat → Option Nat) (vn : Int32) (vc : Nat → Int64) (vp : Nat → Int32) (vo : Nat → Int32) (tn : Int32) (tk : Nat → Int32) (tw : Nat → Int64) (ns : List NmR) (p1 : Int32) : Option (Int32 × (Nat → Int64) × (Nat → Int32) × (Nat → Int32)) := (f_X_meaningOf xm p1).bind (fun o_1 => oc o_1 ((f_T_signOf tn tk tw p1).bind (fun o_3 => if o_3 = (36 : Int32) then (f_V_push vn vc vp vo (0 : Int64) (-2 : Int32)).bind (fun o_7 => some (o_7.1, o_7.2.1, o_7.2.2.1, o_7.2.2.2)) else (f_T_worthOf tn tw p1).bind (fun o_5 => (f_V_push vn vc vp vo o_5 (-1 : Int32)).bind (fun o_6 => some (o_6.1, o_6.2.1, o_6.2.2.1, o_6.2.2.2))))) (fun z_2 => (nsg ns z_2).bind (fun r_8 => (nsg ns z_2).bind (fun r_9 => (f_V_push vn vc vp vo r_8.2.2.2.2.2.1 r_9.2.2.2.2.2.2).bind (fun o_10 => some (o_10.1, o_10.2.1, o_10.2.2.1, o_10.2.2.2))))))
set_option maxHeartbeats 4000000 in
set_option maxRecDepth 100000 in
theorem c_X_pushOperand (l : Launch) (dC : Nat → ClassId) (dI : Nat → Nat → Nat) (aX aM aY aV aC aP aO aT aK aG aE aW : Nat) (cM cC cP cO cK cW cB : ClassId) (sz : Nat) (xn : Int32) (xm : Nat → Option Nat) (vn : Int32) (vd : Int32) (vc : Nat → Int64) (vp : Nat → Int32) (vo : Nat → Int32) (tn : Int32) (ts : Int32) (tk : Nat → Int32) (tw : Nat → Int64) (ns : List NmR) (p1 : Int32) (o : Int32 × (Nat → Int64) × (Nat → Int32) × (Nat → Int32)) (hf : f_X_pushOperand xm vn vc vp vo tn tk tw ns p1 = some o) : Met l y_X_pushOperand (w_X_pushOperand) ({ frames := 3, cells := 0, slots := 0, locals := 63 }) (va_Pc [.ref aX, .ref aT, .int p1] (fun U => U.heap.size = sz ∧ va_P (dC, dI) vwCl ([(aX, .inr (5, [.ref aM, .ref aY, .int xn, .ref aV])), (aM, .inl (cM, 1024, .inr (.inr (.inr (.inr xm))))), (aV, .inr (6, [.ref aC, .ref aP, .ref aO, .int vn, .int vd])), (aC, .inl (cC, 512, .inr (.inl vc))), (aP, .inl (cP, 512, .inl vp)), (aO, .inl (cO, 512, .inl vo)), (aT, .inr (2, [.ref aK, .ref aG, .ref aE, .ref aW, .int tn, .int ts])), (aK, .inl (cK, 1024, .inl tk)), (aW, .inl (cW, 1024, .inr (.inl tw)))] ++ np cB ns) U.heap ∧ va_K (dC, dI) vwCl [(cM, (.object "ExpressionReader$Name")), (cC, .long), (cP, .int), (cO, .int), (cK, .byte), (cW, .long), (cB, .byte)] U ∧ va_D (fun _ => True) ([(aX, .inr (5, [.ref aM, .ref aY, .int xn, .ref aV])), (aM, .inl (cM, 1024, .inr (.inr (.inr (.inr xm))))), (aV, .inr (6, [.ref aC, .ref aP, .ref aO, .int vn, .int vd])), (aC, .inl (cC, 512, .inr (.inl vc))), (aP, .inl (cP, 512, .inl vp)), (aO, .inl (cO, 512, .inl vo)), (aT, .inr (2, [.ref aK, .ref aG, .ref aE, .ref aW, .int tn, .int ts])), (aK, .inl (cK, 1024, .inl tk)), (aW, .inl (cW, 1024, .inr (.inl tw)))] ++ np cB ns) ∧ NW U)) (va_Qv (fun (_ : Unit) => True) (fun _ t => va_P (dC, dI) vwCl ([(aX, .inr (5, [.ref aM, .ref aY, .int xn, .ref aV])), (aM, .inl (cM, 1024, .inr (.inr (.inr (.inr xm))))), (aV, .inr (6, [.ref aC, .ref aP, .ref aO, .int o.1, .int vd])), (aC, .inl (cC, 512, .inr (.inl o.2.1))), (aP, .inl (cP, 512, .inl o.2.2.1)), (aO, .inl (cO, 512, .inl o.2.2.2)), (aT, .inr (2, [.ref aK, .ref aG, .ref aE, .ref aW, .int tn, .int ts])), (aK, .inl (cK, 1024, .inl tk)), (aW, .inl (cW, 1024, .inr (.inl tw)))] ++ np cB ns) t.heap ∧ va_K (dC, dI) vwCl [(cM, (.object "ExpressionReader$Name")), (cC, .long), (cP, .int), (cO, .int), (cK, .byte), (cW, .long), (cB, .byte)] t ∧ va_D (va_A ([(aX, .inr (5, [.ref aM, .ref aY, .int xn, .ref aV])), (aM, .inl (cM, 1024, .inr (.inr (.inr (.inr xm))))), (aV, .inr (6, [.ref aC, .ref aP, .ref aO, .int vn, .int vd])), (aC, .inl (cC, 512, .inr (.inl vc))), (aP, .inl (cP, 512, .inl vp)), (aO, .inl (cO, 512, .inl vo)), (aT, .inr (2, [.ref aK, .ref aG, .ref aE, .ref aW, .int tn, .int ts])), (aK, .inl (cK, 1024, .inl tk)), (aW, .inl (cW, 1024, .inr (.inl tw)))] ++ np cB ns) sz) ([(aX, .inr (5, [.ref aM, .ref aY, .int xn, .ref aV])), (aM, .inl (cM, 1024, .inr (.inr (.inr (.inr xm))))), (aV, .inr (6, [.ref aC, .ref aP, .ref aO, .int o.1, .int vd])), (aC, .inl (cC, 512, .inr (.inl o.2.1))), (aP, .inl (cP, 512, .inl o.2.2.1)), (aO, .inl (cO, 512, .inl o.2.2.2)), (aT, .inr (2, [.ref aK, .ref aG, .ref aE, .ref aW, .int tn, .int ts])), (aK, .inl (cK, 1024, .inl tk)), (aW, .inl (cW, 1024, .inr (.inl tw)))] ++ np cB ns)) (va_A ([(aX, .inr (5, [.ref aM, .ref aY, .int xn, .ref aV])), (aM, .inl (cM, 1024, .inr (.inr (.inr (.inr xm))))), (aV, .inr (6, [.ref aC, .ref aP, .ref aO, .int vn, .int vd])), (aC, .inl (cC, 512, .inr (.inl vc))), (aP, .inl (cP, 512, .inl vp)), (aO, .inl (cO, 512, .inl vo)), (aT, .inr (2, [.ref aK, .ref aG, .ref aE, .ref aW, .int tn, .int ts])), (aK, .inl (cK, 1024, .inl tk)), (aW, .inl (cW, 1024, .inr (.inl tw)))] ++ np cB ns) sz)) 0 0 (va_A ([(aX, .inr (5, [.ref aM, .ref aY, .int xn, .ref aV])), (aM, .inl (cM, 1024, .inr (.inr (.inr (.inr xm))))), (aV, .inr (6, [.ref aC, .ref aP, .ref aO, .int vn, .int vd])), (aC, .inl (cC, 512, .inr (.inl vc))), (aP, .inl (cP, 512, .inl vp)), (aO, .inl (cO, 512, .inl vo)), (aT, .inr (2, [.ref aK, .ref aG, .ref aE, .ref aW, .int tn, .int ts])), (aK, .inl (cK, 1024, .inl tk)), (aW, .inl (cW, 1024, .inr (.inl tw)))] ++ np cB ns) sz) := by
  refine Met.ofW (cc := b_X_pushOperand) (maxL := 4) (ret := none) (by decide) rfl ?_
  intro p e s m args below meth c s₁ B hml hv
  obtain ⟨rfl, hsz, hP, hK, hD0, hN⟩ := hv
  have hx := B.exec
  have hb := B.bytes
  have hr := B.returns
  have hts : ∀ w ∈ WB, w.before _ s = true := fun w h => atoms_spec (ws := w_X_pushOperand) B.pre w (List.mem_cons_of_mem _ h)
  have hown : s.vm.findClass R_X = some m.cls := findClass_of_methodNamed B.named
  have hlocks := B.notSynchronized
  subst hsz
  have hD := hD0.self (sz := s.heap.size)
  generalize hAe : va_A ([(aX, .inr (5, [.ref aM, .ref aY, .int xn, .ref aV])), (aM, .inl (cM, 1024, .inr (.inr (.inr (.inr xm))))), (aV, .inr (6, [.ref aC, .ref aP, .ref aO, .int vn, .int vd])), (aC, .inl (cC, 512, .inr (.inl vc))), (aP, .inl (cP, 512, .inl vp)), (aO, .inl (cO, 512, .inl vo)), (aT, .inr (2, [.ref aK, .ref aG, .ref aE, .ref aW, .int tn, .int ts])), (aK, .inl (cK, 1024, .inl tk)), (aW, .inl (cW, 1024, .inr (.inl tw)))] ++ np cB ns) s.heap.size = A at hD ⊢
  have hA : ∀ q : Nat, s.heap.size ≤ q → A q := fun q h => by rw [← hAe]; exact Or.inr h
  have hS : va_S A s.heap s.heap [] := va_S.rf
  have hP : va_P (dC, dI) vwCl ([(aX, .inr (5, [.ref aM, .ref aY, .int xn, .ref aV])), (aM, .inl (cM, 1024, .inr (.inr (.inr (.inr xm))))), (aV, .inr (6, [.ref aC, .ref aP, .ref aO, .int vn, .int vd])), (aC, .inl (cC, 512, .inr (.inl vc))), (aP, .inl (cP, 512, .inl vp)), (aO, .inl (cO, 512, .inl vo)), (aT, .inr (2, [.ref aK, .ref aG, .ref aE, .ref aW, .int tn, .int ts])), (aK, .inl (cK, 1024, .inl tk)), (aW, .inl (cW, 1024, .inr (.inl tw)))] ++ np cB ns) s.heap := hP
  have hl := lv_entry [.ref aX, .ref aT, .int p1] (n := 4) (Nat.le_of_ble_eq_true rfl)
  rw [lg_entry_eq]
  generalize (lg_sl [.ref aX, .ref aT, .int p1] ++ List.replicate (4 - (lg_sl [.ref aX, .ref aT, .int p1]).length) Slot.unset).toArray = ls at hl ⊢
  have hl : lv_has ls 4 [(0, .ref aX), (1, .ref aT), (2, .int p1)] := hl
  rw [f_X_pushOperand] at hf
  refine lv_aload_n hx hb d_X_pushOperand_0 rfl (lv_at hl 0 rfl) ?_
  refine lv_iload_n hx hb d_X_pushOperand_1 rfl (lv_at hl 2 rfl) ?_
  obtain ⟨o_1, hM_1, hf⟩ := bd_some hf
  refine cr_q (va_runV (As := [.int p1]) (rest := []) ⟨hx, hb, hml, hown, hts⟩ (c_X_meaningOf l dC dI aX aM aY aV aC aP aO cM s.heap.size xn xm p1 o_1 hM_1) (cwV 1 hts (gwV wb_154 wb_156 wb_157 wb_158 wb_155) rfl rfl rfl (by decide +kernel) ⟨Nat.le_of_ble_eq_true rfl, Nat.le_of_ble_eq_true rfl⟩) (pr_V (hP.sub [0, 1] rfl) (hD.sub [0, 1] (by decide) rfl) hK hN [0] rfl (ci := 5) rfl rfl rfl) rfl rfl hl.1 rfl (lv_room (Nat.le_of_ble_eq_true rfl)) d_X_pushOperand_2 ⟨Nat.zero_le _, Nat.zero_le _⟩) hP hD hS hA (in_of [0, 1] rfl) (fun r_1 H locs hw hP hS => ?_)
  subst r_1
  cases e_2 : o_1 with
  | none =>
    rw [e_2, oc_none] at hf
    refine W.eq (g2 := F0 m 5 ls [.null]) rfl ?_
    refine lv_astore_nN (lv' := [(3, .null), (0, .ref aX), (1, .ref aT), (2, .int p1)]) hx hb d_X_pushOperand_5 rfl hl (by decide) rfl (fun ls hl => ?_)
    refine lv_aload_nN hx hb d_X_pushOperand_6 rfl (lv_at hl 0 rfl) ?_
    refine lv_ifnullN (tgt := 28) hx hb d_X_pushOperand_7 (by decide) ?_
    refine lv_aload_n hx hb d_X_pushOperand_28 rfl (lv_at hl 2 rfl) ?_
    refine lv_iload_n hx hb d_X_pushOperand_29 rfl (lv_at hl 3 rfl) ?_
    obtain ⟨o_3, hM_3, hf⟩ := bd_some hf
    refine cr_i (va_runV (As := [.int p1]) (rest := []) ⟨hx, hb, hml, hown, hts⟩ (c_T_signOf l dC dI aT aK aG aE aW cK cW H.size tn ts tk tw p1 o_3 hM_3) (cwV 1 hts (gwV wb_312 wb_314 wb_315 wb_32 wb_313) rfl rfl rfl (by decide +kernel) ⟨Nat.le_of_ble_eq_true rfl, Nat.le_of_ble_eq_true rfl⟩) (pr_V (hP.sub [6, 7, 8] rfl) (hD.sub [6, 7, 8] (by decide) rfl) hK hN [4, 5] rfl (ci := 2) rfl rfl rfl) rfl rfl hl.1 rfl (lv_room (Nat.le_of_ble_eq_true rfl)) d_X_pushOperand_30 ⟨Nat.zero_le _, Nat.zero_le _⟩) hP hD hS hA (in_of [6, 7, 8] rfl) (fun r_3 H locs hw hP hS => ?_)
    subst r_3
    refine lv_bipush (v := (36 : Int32)) hx hb d_X_pushOperand_33 (by decide) ?_
    refine lv_icmp_ne (tgt := 51) hx hb d_X_pushOperand_35 (by decide) (fun c_4 => ?_) (fun c_4 => ?_)
    · rw [if_neg c_4] at hf
      refine lv_aload_n hx hb d_X_pushOperand_51 rfl (lv_at hl 1 rfl) ?_
      refine va_get (D := (dC, dI)) (ci := 5) (v := .ref aV) (C := R_X) (T := F_X) (N := 4) hx hb hts i_X hown hK hP 0 rfl rfl 3 (by decide) (hts _ wb_135) (fun _ h9 => h9) rfl d_X_pushOperand_52 ?_
      refine lv_aload_n hx hb d_X_pushOperand_55 rfl (lv_at hl 2 rfl) ?_
      refine lv_iload_n hx hb d_X_pushOperand_56 rfl (lv_at hl 3 rfl) ?_
      obtain ⟨o_5, hM_5, hf⟩ := bd_some hf
      refine cr_l (va_runV (As := [.int p1]) (rest := [.ref aV]) ⟨hx, hb, hml, hown, hts⟩ (c_T_worthOf l dC dI aT aK aG aE aW cW H.size tn ts tw p1 o_5 hM_5) (cwV 1 hts (gwV wb_323 wb_44 wb_45 wb_32 wb_43) rfl rfl rfl (by decide +kernel) ⟨Nat.le_of_ble_eq_true rfl, Nat.le_of_ble_eq_true rfl⟩) (pr_V (hP.sub [6, 8] rfl) (hD.sub [6, 8] (by decide) rfl) hK hN [5] rfl (ci := 2) rfl rfl rfl) rfl rfl hl.1 rfl (lv_room (Nat.le_of_ble_eq_true rfl)) d_X_pushOperand_57 ⟨Nat.zero_le _, Nat.zero_le _⟩) hP hD hS hA (in_of [6, 8] rfl) (fun r_5 H locs hw hP hS => ?_)
      subst r_5
      refine lv_iconst (v := (-1 : Int32)) hx hb d_X_pushOperand_60 (by decide) ?_
      obtain ⟨o_6, hM_6, hf⟩ := bd_some hf
      refine cq_v (wr := [(aX, .inr (5, [.ref aM, .ref aY, .int xn, .ref aV])), (aM, .inl (cM, 1024, .inr (.inr (.inr (.inr xm))))), (aT, .inr (2, [.ref aK, .ref aG, .ref aE, .ref aW, .int tn, .int ts])), (aK, .inl (cK, 1024, .inl tk)), (aW, .inl (cW, 1024, .inr (.inl tw)))]) (va_runV (As := [.long o_5, .int (-1 : Int32)]) (rest := []) ⟨hx, hb, hml, hown, hts⟩ (c_V_push l dC dI aV aC aP aO cC cP cO H.size vn vd vc vp vo o_5 (-1 : Int32) o_6 hM_6) (cwV 2 hts (gwV wb_324 wb_326 wb_327 wb_112 wb_325) rfl rfl rfl (by decide +kernel) ⟨Nat.le_of_ble_eq_true rfl, Nat.le_of_ble_eq_true rfl⟩) (pr_V (hP.sub [2, 3, 4, 5] rfl) (hD.sub [2, 3, 4, 5] (by decide) rfl) hK hN [1, 2, 3] rfl (ci := 6) rfl rfl rfl) rfl rfl hl.1 rfl (lv_room (Nat.le_of_ble_eq_true rfl)) d_X_pushOperand_61 ⟨Nat.zero_le _, Nat.zero_le _⟩) hP hD hS hA [2, 3, 4, 5] [0, 1, 6, 7, 8] rfl rfl rfl (by decide) (by decide) (fun H locs hw hP hD hS => ?_)
      have hP : va_P (dC, dI) vwCl ([(aX, .inr (5, [.ref aM, .ref aY, .int xn, .ref aV])), (aM, .inl (cM, 1024, .inr (.inr (.inr (.inr xm))))), (aT, .inr (2, [.ref aK, .ref aG, .ref aE, .ref aW, .int tn, .int ts])), (aK, .inl (cK, 1024, .inl tk)), (aW, .inl (cW, 1024, .inr (.inl tw))), (aV, .inr (6, [.ref aC, .ref aP, .ref aO, .int o_6.1, .int vd])), (aC, .inl (cC, 512, .inr (.inl o_6.2.1))), (aP, .inl (cP, 512, .inl o_6.2.2.1)), (aO, .inl (cO, 512, .inl o_6.2.2.2))] ++ np cB ns) H := hP
      have hD : va_D A ([(aX, .inr (5, [.ref aM, .ref aY, .int xn, .ref aV])), (aM, .inl (cM, 1024, .inr (.inr (.inr (.inr xm))))), (aT, .inr (2, [.ref aK, .ref aG, .ref aE, .ref aW, .int tn, .int ts])), (aK, .inl (cK, 1024, .inl tk)), (aW, .inl (cW, 1024, .inr (.inl tw))), (aV, .inr (6, [.ref aC, .ref aP, .ref aO, .int o_6.1, .int vd])), (aC, .inl (cC, 512, .inr (.inl o_6.2.1))), (aP, .inl (cP, 512, .inl o_6.2.2.1)), (aO, .inl (cO, 512, .inl o_6.2.2.2))] ++ np cB ns) := hD
      have ho := Option.some.inj hf
      subst o
      have hP9 := hP.part (cx := [(aX, .inr (5, [.ref aM, .ref aY, .int xn, .ref aV])), (aM, .inl (cM, 1024, .inr (.inr (.inr (.inr xm))))), (aV, .inr (6, [.ref aC, .ref aP, .ref aO, .int o_6.1, .int vd])), (aC, .inl (cC, 512, .inr (.inl o_6.2.1))), (aP, .inl (cP, 512, .inl o_6.2.2.1)), (aO, .inl (cO, 512, .inl o_6.2.2.2)), (aT, .inr (2, [.ref aK, .ref aG, .ref aE, .ref aW, .int tn, .int ts])), (aK, .inl (cK, 1024, .inl tk)), (aW, .inl (cW, 1024, .inr (.inl tw)))]) [0, 1, 5, 6, 7, 8, 2, 3, 4] rfl
      have hD9 := hD.part (cx := [(aX, .inr (5, [.ref aM, .ref aY, .int xn, .ref aV])), (aM, .inl (cM, 1024, .inr (.inr (.inr (.inr xm))))), (aV, .inr (6, [.ref aC, .ref aP, .ref aO, .int o_6.1, .int vd])), (aC, .inl (cC, 512, .inr (.inl o_6.2.1))), (aP, .inl (cP, 512, .inl o_6.2.2.1)), (aO, .inl (cO, 512, .inl o_6.2.2.2)), (aT, .inr (2, [.ref aK, .ref aG, .ref aE, .ref aW, .int tn, .int ts])), (aK, .inl (cK, 1024, .inl tk)), (aW, .inl (cW, 1024, .inr (.inl tw)))]) [0, 1, 5, 6, 7, 8, 2, 3, 4] (by decide) rfl
      exact W.vret hx hb hr (fun t ht hW => ⟨⟨(), rfl, trivial, by rw [ht]; exact hP9, va_K.moved hW.alike hK, hD9⟩, hS.F ht⟩) hS.2.2 d_X_pushOperand_64
    · rw [if_pos c_4] at hf
      refine lv_aload_n hx hb d_X_pushOperand_38 rfl (lv_at hl 1 rfl) ?_
      refine va_get (D := (dC, dI)) (ci := 5) (v := .ref aV) (C := R_X) (T := F_X) (N := 4) hx hb hts i_X hown hK hP 0 rfl rfl 3 (by decide) (hts _ wb_135) (fun _ h9 => h9) rfl d_X_pushOperand_39 ?_
      refine lv_lconst (v := (0 : Int64)) hx hb d_X_pushOperand_42 (by decide) ?_
      refine lv_bipush (v := (-2 : Int32)) hx hb d_X_pushOperand_43 (by decide) ?_
      obtain ⟨o_7, hM_7, hf⟩ := bd_some hf
      refine cq_v (wr := [(aX, .inr (5, [.ref aM, .ref aY, .int xn, .ref aV])), (aM, .inl (cM, 1024, .inr (.inr (.inr (.inr xm))))), (aT, .inr (2, [.ref aK, .ref aG, .ref aE, .ref aW, .int tn, .int ts])), (aK, .inl (cK, 1024, .inl tk)), (aW, .inl (cW, 1024, .inr (.inl tw)))]) (va_runV (As := [.long (0 : Int64), .int (-2 : Int32)]) (rest := []) ⟨hx, hb, hml, hown, hts⟩ (c_V_push l dC dI aV aC aP aO cC cP cO H.size vn vd vc vp vo (0 : Int64) (-2 : Int32) o_7 hM_7) (cwV 2 hts (gwV wb_324 wb_326 wb_327 wb_112 wb_325) rfl rfl rfl (by decide +kernel) ⟨Nat.le_of_ble_eq_true rfl, Nat.le_of_ble_eq_true rfl⟩) (pr_V (hP.sub [2, 3, 4, 5] rfl) (hD.sub [2, 3, 4, 5] (by decide) rfl) hK hN [1, 2, 3] rfl (ci := 6) rfl rfl rfl) rfl rfl hl.1 rfl (lv_room (Nat.le_of_ble_eq_true rfl)) d_X_pushOperand_45 ⟨Nat.zero_le _, Nat.zero_le _⟩) hP hD hS hA [2, 3, 4, 5] [0, 1, 6, 7, 8] rfl rfl rfl (by decide) (by decide) (fun H locs hw hP hD hS => ?_)
      have hP : va_P (dC, dI) vwCl ([(aX, .inr (5, [.ref aM, .ref aY, .int xn, .ref aV])), (aM, .inl (cM, 1024, .inr (.inr (.inr (.inr xm))))), (aT, .inr (2, [.ref aK, .ref aG, .ref aE, .ref aW, .int tn, .int ts])), (aK, .inl (cK, 1024, .inl tk)), (aW, .inl (cW, 1024, .inr (.inl tw))), (aV, .inr (6, [.ref aC, .ref aP, .ref aO, .int o_7.1, .int vd])), (aC, .inl (cC, 512, .inr (.inl o_7.2.1))), (aP, .inl (cP, 512, .inl o_7.2.2.1)), (aO, .inl (cO, 512, .inl o_7.2.2.2))] ++ np cB ns) H := hP
      have hD : va_D A ([(aX, .inr (5, [.ref aM, .ref aY, .int xn, .ref aV])), (aM, .inl (cM, 1024, .inr (.inr (.inr (.inr xm))))), (aT, .inr (2, [.ref aK, .ref aG, .ref aE, .ref aW, .int tn, .int ts])), (aK, .inl (cK, 1024, .inl tk)), (aW, .inl (cW, 1024, .inr (.inl tw))), (aV, .inr (6, [.ref aC, .ref aP, .ref aO, .int o_7.1, .int vd])), (aC, .inl (cC, 512, .inr (.inl o_7.2.1))), (aP, .inl (cP, 512, .inl o_7.2.2.1)), (aO, .inl (cO, 512, .inl o_7.2.2.2))] ++ np cB ns) := hD
      refine lv_goto (tgt := 64) hx hb d_X_pushOperand_48 (by decide) ?_
      have ho := Option.some.inj hf
      subst o
      have hP9 := hP.part (cx := [(aX, .inr (5, [.ref aM, .ref aY, .int xn, .ref aV])), (aM, .inl (cM, 1024, .inr (.inr (.inr (.inr xm))))), (aV, .inr (6, [.ref aC, .ref aP, .ref aO, .int o_7.1, .int vd])), (aC, .inl (cC, 512, .inr (.inl o_7.2.1))), (aP, .inl (cP, 512, .inl o_7.2.2.1)), (aO, .inl (cO, 512, .inl o_7.2.2.2)), (aT, .inr (2, [.ref aK, .ref aG, .ref aE, .ref aW, .int tn, .int ts])), (aK, .inl (cK, 1024, .inl tk)), (aW, .inl (cW, 1024, .inr (.inl tw)))]) [0, 1, 5, 6, 7, 8, 2, 3, 4] rfl
      have hD9 := hD.part (cx := [(aX, .inr (5, [.ref aM, .ref aY, .int xn, .ref aV])), (aM, .inl (cM, 1024, .inr (.inr (.inr (.inr xm))))), (aV, .inr (6, [.ref aC, .ref aP, .ref aO, .int o_7.1, .int vd])), (aC, .inl (cC, 512, .inr (.inl o_7.2.1))), (aP, .inl (cP, 512, .inl o_7.2.2.1)), (aO, .inl (cO, 512, .inl o_7.2.2.2)), (aT, .inr (2, [.ref aK, .ref aG, .ref aE, .ref aW, .int tn, .int ts])), (aK, .inl (cK, 1024, .inl tk)), (aW, .inl (cW, 1024, .inr (.inl tw)))]) [0, 1, 5, 6, 7, 8, 2, 3, 4] (by decide) rfl
      exact W.vret hx hb hr (fun t ht hW => ⟨⟨(), rfl, trivial, by rw [ht]; exact hP9, va_K.moved hW.alike hK, hD9⟩, hS.F ht⟩) hS.2.2 d_X_pushOperand_64
  | some z_2 =>
    rw [e_2, oc_some] at hf
    refine W.eq (g2 := F0 m 5 ls [.ref z_2]) rfl ?_
    refine lv_astore_n (lv' := [(3, .ref z_2), (0, .ref aX), (1, .ref aT), (2, .int p1)]) hx hb d_X_pushOperand_5 rfl hl (by decide) rfl (fun ls hl => ?_)
    refine lv_aload_n hx hb d_X_pushOperand_6 rfl (lv_at hl 0 rfl) ?_
    refine lv_ifnull hx hb d_X_pushOperand_7 ?_
    refine lv_aload_n hx hb d_X_pushOperand_10 rfl (lv_at hl 1 rfl) ?_
    refine va_get (D := (dC, dI)) (ci := 5) (v := .ref aV) (C := R_X) (T := F_X) (N := 4) hx hb hts i_X hown hK hP 0 rfl rfl 3 (by decide) (hts _ wb_135) (fun _ h9 => h9) rfl d_X_pushOperand_11 ?_
    refine lv_aload_n hx hb d_X_pushOperand_14 rfl (lv_at hl 0 rfl) ?_
    obtain ⟨r_8, hr_8, hf⟩ := bd_some hf
    obtain ⟨kz_8, hz_8, hy_8⟩ := np_get (X := [(aX, .inr (5, [.ref aM, .ref aY, .int xn, .ref aV])), (aM, .inl (cM, 1024, .inr (.inr (.inr (.inr xm))))), (aV, .inr (6, [.ref aC, .ref aP, .ref aO, .int vn, .int vd])), (aC, .inl (cC, 512, .inr (.inl vc))), (aP, .inl (cP, 512, .inl vp)), (aO, .inl (cO, 512, .inl vo)), (aT, .inr (2, [.ref aK, .ref aG, .ref aE, .ref aW, .int tn, .int ts])), (aK, .inl (cK, 1024, .inl tk)), (aW, .inl (cW, 1024, .inr (.inl tw)))]) (cB := cB) hr_8
    refine va_getN (D := (dC, dI)) (ci := 3) (v := .long r_8.2.2.2.2.2.1) (C := R_N) (T := F_N) (N := 4) (host := R_R) hx hb hts i_N hown hK hP kz_8 hz_8 rfl 2 (by decide) (hN.use nl_2 rfl) (fun _ h9 => h9) rfl d_X_pushOperand_15 ?_
    refine lv_aload_n hx hb d_X_pushOperand_18 rfl (lv_at hl 0 rfl) ?_
    obtain ⟨r_9, hr_9, hf⟩ := bd_some hf
    obtain ⟨kz_9, hz_9, hy_9⟩ := np_get (X := [(aX, .inr (5, [.ref aM, .ref aY, .int xn, .ref aV])), (aM, .inl (cM, 1024, .inr (.inr (.inr (.inr xm))))), (aV, .inr (6, [.ref aC, .ref aP, .ref aO, .int vn, .int vd])), (aC, .inl (cC, 512, .inr (.inl vc))), (aP, .inl (cP, 512, .inl vp)), (aO, .inl (cO, 512, .inl vo)), (aT, .inr (2, [.ref aK, .ref aG, .ref aE, .ref aW, .int tn, .int ts])), (aK, .inl (cK, 1024, .inl tk)), (aW, .inl (cW, 1024, .inr (.inl tw)))]) (cB := cB) hr_9
    refine va_getN (D := (dC, dI)) (ci := 3) (v := .int r_9.2.2.2.2.2.2) (C := R_N) (T := F_N) (N := 4) (host := R_R) hx hb hts i_N hown hK hP kz_9 hz_9 rfl 3 (by decide) (hN.use nl_3 rfl) (fun _ h9 => h9) rfl d_X_pushOperand_19 ?_
    obtain ⟨o_10, hM_10, hf⟩ := bd_some hf
    refine cq_v (wr := [(aX, .inr (5, [.ref aM, .ref aY, .int xn, .ref aV])), (aM, .inl (cM, 1024, .inr (.inr (.inr (.inr xm))))), (aT, .inr (2, [.ref aK, .ref aG, .ref aE, .ref aW, .int tn, .int ts])), (aK, .inl (cK, 1024, .inl tk)), (aW, .inl (cW, 1024, .inr (.inl tw)))]) (va_runV (As := [.long r_8.2.2.2.2.2.1, .int r_9.2.2.2.2.2.2]) (rest := []) ⟨hx, hb, hml, hown, hts⟩ (c_V_push l dC dI aV aC aP aO cC cP cO H.size vn vd vc vp vo r_8.2.2.2.2.2.1 r_9.2.2.2.2.2.2 o_10 hM_10) (cwV 2 hts (gwV wb_324 wb_326 wb_327 wb_112 wb_325) rfl rfl rfl (by decide +kernel) ⟨Nat.le_of_ble_eq_true rfl, Nat.le_of_ble_eq_true rfl⟩) (pr_V (hP.sub [2, 3, 4, 5] rfl) (hD.sub [2, 3, 4, 5] (by decide) rfl) hK hN [1, 2, 3] rfl (ci := 6) rfl rfl rfl) rfl rfl hl.1 rfl (lv_room (Nat.le_of_ble_eq_true rfl)) d_X_pushOperand_22 ⟨Nat.zero_le _, Nat.zero_le _⟩) hP hD hS hA [2, 3, 4, 5] [0, 1, 6, 7, 8] rfl rfl rfl (by decide) (by decide) (fun H locs hw hP hD hS => ?_)
    have hP : va_P (dC, dI) vwCl ([(aX, .inr (5, [.ref aM, .ref aY, .int xn, .ref aV])), (aM, .inl (cM, 1024, .inr (.inr (.inr (.inr xm))))), (aT, .inr (2, [.ref aK, .ref aG, .ref aE, .ref aW, .int tn, .int ts])), (aK, .inl (cK, 1024, .inl tk)), (aW, .inl (cW, 1024, .inr (.inl tw))), (aV, .inr (6, [.ref aC, .ref aP, .ref aO, .int o_10.1, .int vd])), (aC, .inl (cC, 512, .inr (.inl o_10.2.1))), (aP, .inl (cP, 512, .inl o_10.2.2.1)), (aO, .inl (cO, 512, .inl o_10.2.2.2))] ++ np cB ns) H := hP
    have hD : va_D A ([(aX, .inr (5, [.ref aM, .ref aY, .int xn, .ref aV])), (aM, .inl (cM, 1024, .inr (.inr (.inr (.inr xm))))), (aT, .inr (2, [.ref aK, .ref aG, .ref aE, .ref aW, .int tn, .int ts])), (aK, .inl (cK, 1024, .inl tk)), (aW, .inl (cW, 1024, .inr (.inl tw))), (aV, .inr (6, [.ref aC, .ref aP, .ref aO, .int o_10.1, .int vd])), (aC, .inl (cC, 512, .inr (.inl o_10.2.1))), (aP, .inl (cP, 512, .inl o_10.2.2.1)), (aO, .inl (cO, 512, .inl o_10.2.2.2))] ++ np cB ns) := hD
    refine lv_goto (tgt := 64) hx hb d_X_pushOperand_25 (by decide) ?_
    have ho := Option.some.inj hf
    subst o
    have hP9 := hP.part (cx := [(aX, .inr (5, [.ref aM, .ref aY, .int xn, .ref aV])), (aM, .inl (cM, 1024, .inr (.inr (.inr (.inr xm))))), (aV, .inr (6, [.ref aC, .ref aP, .ref aO, .int o_10.1, .int vd])), (aC, .inl (cC, 512, .inr (.inl o_10.2.1))), (aP, .inl (cP, 512, .inl o_10.2.2.1)), (aO, .inl (cO, 512, .inl o_10.2.2.2)), (aT, .inr (2, [.ref aK, .ref aG, .ref aE, .ref aW, .int tn, .int ts])), (aK, .inl (cK, 1024, .inl tk)), (aW, .inl (cW, 1024, .inr (.inl tw)))]) [0, 1, 5, 6, 7, 8, 2, 3, 4] rfl
    have hD9 := hD.part (cx := [(aX, .inr (5, [.ref aM, .ref aY, .int xn, .ref aV])), (aM, .inl (cM, 1024, .inr (.inr (.inr (.inr xm))))), (aV, .inr (6, [.ref aC, .ref aP, .ref aO, .int o_10.1, .int vd])), (aC, .inl (cC, 512, .inr (.inl o_10.2.1))), (aP, .inl (cP, 512, .inl o_10.2.2.1)), (aO, .inl (cO, 512, .inl o_10.2.2.2)), (aT, .inr (2, [.ref aK, .ref aG, .ref aE, .ref aW, .int tn, .int ts])), (aK, .inl (cK, 1024, .inl tk)), (aW, .inl (cW, 1024, .inr (.inl tw)))]) [0, 1, 5, 6, 7, 8, 2, 3, 4] (by decide) rfl
    exact W.vret hx hb hr (fun t ht hW => ⟨⟨(), rfl, trivial, by rw [ht]; exact hP9, va_K.moved hW.alike hK, hD9⟩, hS.F ht⟩) hS.2.2 d_X_pushOperand_64

def f_X_workOut_l16 : Nat → Int32 → (Nat → Option Nat) → (Nat → Int32) → Int32 → Int32 → (Nat → Int64) → (Nat → Int32) → (Nat → Int32) → Int32 → (Nat → Int32) → (Nat → Int64) → (List NmR) → Int32 → Int32 → Option (Int32 × (Nat → Int32) × Int32 × Int32 × (Nat → Int64) × (Nat → Int32) × (Nat → Int32))
  | 0, _, _, _, _, _, _, _, _, _, _, _, _, _, _ => none
  | n + 1, xn, xm, xw, vn, vd, vc, vp, vo, tn, tk, tw, ns, x2, x3 => (f_T_size tn).bind (fun o_2 => if o_2 ≤ x3 then (f_X_applyWaiting xn xw vn vd vc vp vo (1 : Int32)).bind (fun o_4 => some (o_4.1, xw, o_4.2.1, o_4.2.2.1, o_4.2.2.2.1, o_4.2.2.2.2.1, o_4.2.2.2.2.2)) else (f_T_signOf tn tk tw x3).bind (fun o_5 => if x2 = (0 : Int32) then if o_5 = (41 : Int32) then (f_X_applyWaiting xn xw vn vd vc vp vo (1 : Int32)).bind (fun o_11 => (f_X_dropBracket o_11.1).bind (fun o_12 => f_X_workOut_l16 n o_12 xm xw o_11.2.1 o_11.2.2.1 o_11.2.2.2.1 o_11.2.2.2.2.1 o_11.2.2.2.2.2 tn tk tw ns x2 (x3 + (1 : Int32)))) else (f_X_rankOf o_5).bind (fun o_8 => (f_X_applyWaiting xn xw vn vd vc vp vo o_8).bind (fun o_9 => (f_X_letWait o_9.1 xw o_5).bind (fun o_10 => f_X_workOut_l16 n o_10.1 xm o_10.2 o_9.2.1 o_9.2.2.1 o_9.2.2.2.1 o_9.2.2.2.2.1 o_9.2.2.2.2.2 tn tk tw ns (1 : Int32) (x3 + (1 : Int32))))) else (f_X_isOperand xm tn tk tw ns x3).bind (fun o_13 => if o_13 = (0 : Int32) then if (1 : Int32) = (0 : Int32) then (f_X_pushOperand xm vn vc vp vo tn tk tw ns x3).bind (fun o_21 => f_X_workOut_l16 n xn xm xw o_21.1 vd o_21.2.1 o_21.2.2.1 o_21.2.2.2 tn tk tw ns (1 : Int32) (x3 + (1 : Int32))) else if o_5 = (40 : Int32) then (f_X_letWait xn xw o_5).bind (fun o_24 => f_X_workOut_l16 n o_24.1 xm o_24.2 vn vd vc vp vo tn tk tw ns (1 : Int32) (x3 + (1 : Int32))) else (f_X_letWait xn xw (-o_5)).bind (fun o_23 => f_X_workOut_l16 n o_23.1 xm o_23.2 vn vd vc vp vo tn tk tw ns (1 : Int32) (x3 + (1 : Int32))) else if (0 : Int32) = (0 : Int32) then (f_X_pushOperand xm vn vc vp vo tn tk tw ns x3).bind (fun o_16 => f_X_workOut_l16 n xn xm xw o_16.1 vd o_16.2.1 o_16.2.2.1 o_16.2.2.2 tn tk tw ns (0 : Int32) (x3 + (1 : Int32))) else if o_5 = (40 : Int32) then (f_X_letWait xn xw o_5).bind (fun o_19 => f_X_workOut_l16 n o_19.1 xm o_19.2 vn vd vc vp vo tn tk tw ns (0 : Int32) (x3 + (1 : Int32))) else (f_X_letWait xn xw (-o_5)).bind (fun o_18 => f_X_workOut_l16 n o_18.1 xm o_18.2 vn vd vc vp vo tn tk tw ns (0 : Int32) (x3 + (1 : Int32))))))
def f_X_workOut (xn : Int32) (xm : Nat → Option Nat) (xw : Nat → Int32) (vn : Int32) (vd : Int32) (vc : Nat → Int64) (vp : Nat → Int32) (vo : Nat → Int32) (tn : Int32) (tk : Nat → Int32) (tw : Nat → Int64) (ns : List NmR) : Option (Int32 × (Nat → Int32) × Int32 × Int32 × (Nat → Int64) × (Nat → Int32) × (Nat → Int32)) := (f_V_clear vn vd).bind (fun o_1 => f_X_workOut_l16 FU (0 : Int32) xm xw o_1.1 o_1.2 vc vp vo tn tk tw ns (1 : Int32) (0 : Int32))
set_option maxHeartbeats 4000000 in
set_option maxRecDepth 100000 in
theorem c_X_workOut (l : Launch) (dC : Nat → ClassId) (dI : Nat → Nat → Nat) (aX aM aY aV aC aP aO aT aK aG aE aW : Nat) (cM cY cC cP cO cK cW cB : ClassId) (sz : Nat) (xn : Int32) (xm : Nat → Option Nat) (xw : Nat → Int32) (vn : Int32) (vd : Int32) (vc : Nat → Int64) (vp : Nat → Int32) (vo : Nat → Int32) (tn : Int32) (ts : Int32) (tk : Nat → Int32) (tw : Nat → Int64) (ns : List NmR) (o : Int32 × (Nat → Int32) × Int32 × Int32 × (Nat → Int64) × (Nat → Int32) × (Nat → Int32)) (hf : f_X_workOut xn xm xw vn vd vc vp vo tn tk tw ns = some o) : Met l y_X_workOut (w_X_workOut) ({ frames := 4, cells := 0, slots := 0, locals := 96 }) (va_Pc [.ref aX, .ref aT] (fun U => U.heap.size = sz ∧ va_P (dC, dI) vwCl ([(aX, .inr (5, [.ref aM, .ref aY, .int xn, .ref aV])), (aM, .inl (cM, 1024, .inr (.inr (.inr (.inr xm))))), (aY, .inl (cY, 1024, .inl xw)), (aV, .inr (6, [.ref aC, .ref aP, .ref aO, .int vn, .int vd])), (aC, .inl (cC, 512, .inr (.inl vc))), (aP, .inl (cP, 512, .inl vp)), (aO, .inl (cO, 512, .inl vo)), (aT, .inr (2, [.ref aK, .ref aG, .ref aE, .ref aW, .int tn, .int ts])), (aK, .inl (cK, 1024, .inl tk)), (aW, .inl (cW, 1024, .inr (.inl tw)))] ++ np cB ns) U.heap ∧ va_K (dC, dI) vwCl [(cM, (.object "ExpressionReader$Name")), (cY, .byte), (cC, .long), (cP, .int), (cO, .int), (cK, .byte), (cW, .long), (cB, .byte)] U ∧ va_D (fun _ => True) ([(aX, .inr (5, [.ref aM, .ref aY, .int xn, .ref aV])), (aM, .inl (cM, 1024, .inr (.inr (.inr (.inr xm))))), (aY, .inl (cY, 1024, .inl xw)), (aV, .inr (6, [.ref aC, .ref aP, .ref aO, .int vn, .int vd])), (aC, .inl (cC, 512, .inr (.inl vc))), (aP, .inl (cP, 512, .inl vp)), (aO, .inl (cO, 512, .inl vo)), (aT, .inr (2, [.ref aK, .ref aG, .ref aE, .ref aW, .int tn, .int ts])), (aK, .inl (cK, 1024, .inl tk)), (aW, .inl (cW, 1024, .inr (.inl tw)))] ++ np cB ns) ∧ NW U)) (va_Qv (fun (_ : Unit) => True) (fun _ t => va_P (dC, dI) vwCl ([(aX, .inr (5, [.ref aM, .ref aY, .int o.1, .ref aV])), (aM, .inl (cM, 1024, .inr (.inr (.inr (.inr xm))))), (aY, .inl (cY, 1024, .inl o.2.1)), (aV, .inr (6, [.ref aC, .ref aP, .ref aO, .int o.2.2.1, .int o.2.2.2.1])), (aC, .inl (cC, 512, .inr (.inl o.2.2.2.2.1))), (aP, .inl (cP, 512, .inl o.2.2.2.2.2.1)), (aO, .inl (cO, 512, .inl o.2.2.2.2.2.2)), (aT, .inr (2, [.ref aK, .ref aG, .ref aE, .ref aW, .int tn, .int ts])), (aK, .inl (cK, 1024, .inl tk)), (aW, .inl (cW, 1024, .inr (.inl tw)))] ++ np cB ns) t.heap ∧ va_K (dC, dI) vwCl [(cM, (.object "ExpressionReader$Name")), (cY, .byte), (cC, .long), (cP, .int), (cO, .int), (cK, .byte), (cW, .long), (cB, .byte)] t ∧ va_D (va_A ([(aX, .inr (5, [.ref aM, .ref aY, .int xn, .ref aV])), (aM, .inl (cM, 1024, .inr (.inr (.inr (.inr xm))))), (aY, .inl (cY, 1024, .inl xw)), (aV, .inr (6, [.ref aC, .ref aP, .ref aO, .int vn, .int vd])), (aC, .inl (cC, 512, .inr (.inl vc))), (aP, .inl (cP, 512, .inl vp)), (aO, .inl (cO, 512, .inl vo)), (aT, .inr (2, [.ref aK, .ref aG, .ref aE, .ref aW, .int tn, .int ts])), (aK, .inl (cK, 1024, .inl tk)), (aW, .inl (cW, 1024, .inr (.inl tw)))] ++ np cB ns) sz) ([(aX, .inr (5, [.ref aM, .ref aY, .int o.1, .ref aV])), (aM, .inl (cM, 1024, .inr (.inr (.inr (.inr xm))))), (aY, .inl (cY, 1024, .inl o.2.1)), (aV, .inr (6, [.ref aC, .ref aP, .ref aO, .int o.2.2.1, .int o.2.2.2.1])), (aC, .inl (cC, 512, .inr (.inl o.2.2.2.2.1))), (aP, .inl (cP, 512, .inl o.2.2.2.2.2.1)), (aO, .inl (cO, 512, .inl o.2.2.2.2.2.2)), (aT, .inr (2, [.ref aK, .ref aG, .ref aE, .ref aW, .int tn, .int ts])), (aK, .inl (cK, 1024, .inl tk)), (aW, .inl (cW, 1024, .inr (.inl tw)))] ++ np cB ns)) (va_A ([(aX, .inr (5, [.ref aM, .ref aY, .int xn, .ref aV])), (aM, .inl (cM, 1024, .inr (.inr (.inr (.inr xm))))), (aY, .inl (cY, 1024, .inl xw)), (aV, .inr (6, [.ref aC, .ref aP, .ref aO, .int vn, .int vd])), (aC, .inl (cC, 512, .inr (.inl vc))), (aP, .inl (cP, 512, .inl vp)), (aO, .inl (cO, 512, .inl vo)), (aT, .inr (2, [.ref aK, .ref aG, .ref aE, .ref aW, .int tn, .int ts])), (aK, .inl (cK, 1024, .inl tk)), (aW, .inl (cW, 1024, .inr (.inl tw)))] ++ np cB ns) sz)) 0 0 (va_A ([(aX, .inr (5, [.ref aM, .ref aY, .int xn, .ref aV])), (aM, .inl (cM, 1024, .inr (.inr (.inr (.inr xm))))), (aY, .inl (cY, 1024, .inl xw)), (aV, .inr (6, [.ref aC, .ref aP, .ref aO, .int vn, .int vd])), (aC, .inl (cC, 512, .inr (.inl vc))), (aP, .inl (cP, 512, .inl vp)), (aO, .inl (cO, 512, .inl vo)), (aT, .inr (2, [.ref aK, .ref aG, .ref aE, .ref aW, .int tn, .int ts])), (aK, .inl (cK, 1024, .inl tk)), (aW, .inl (cW, 1024, .inr (.inl tw)))] ++ np cB ns) sz) := by
  refine Met.ofW (cc := b_X_workOut) (maxL := 5) (ret := none) (by decide) rfl ?_
  intro p e s m args below meth c s₁ B hml hv
  obtain ⟨rfl, hsz, hP, hK, hD0, hN⟩ := hv
  have hx := B.exec
  have hb := B.bytes
  have hr := B.returns
  have hts : ∀ w ∈ WB, w.before _ s = true := fun w h => atoms_spec (ws := w_X_workOut) B.pre w (List.mem_cons_of_mem _ h)
  have hown : s.vm.findClass R_X = some m.cls := findClass_of_methodNamed B.named
  have hlocks := B.notSynchronized
  subst hsz
  have hD := hD0.self (sz := s.heap.size)
  generalize hAe : va_A ([(aX, .inr (5, [.ref aM, .ref aY, .int xn, .ref aV])), (aM, .inl (cM, 1024, .inr (.inr (.inr (.inr xm))))), (aY, .inl (cY, 1024, .inl xw)), (aV, .inr (6, [.ref aC, .ref aP, .ref aO, .int vn, .int vd])), (aC, .inl (cC, 512, .inr (.inl vc))), (aP, .inl (cP, 512, .inl vp)), (aO, .inl (cO, 512, .inl vo)), (aT, .inr (2, [.ref aK, .ref aG, .ref aE, .ref aW, .int tn, .int ts])), (aK, .inl (cK, 1024, .inl tk)), (aW, .inl (cW, 1024, .inr (.inl tw)))] ++ np cB ns) s.heap.size = A at hD ⊢
  have hA : ∀ q : Nat, s.heap.size ≤ q → A q := fun q h => by rw [← hAe]; exact Or.inr h
  have hS : va_S A s.heap s.heap [] := va_S.rf
  have hP : va_P (dC, dI) vwCl ([(aX, .inr (5, [.ref aM, .ref aY, .int xn, .ref aV])), (aM, .inl (cM, 1024, .inr (.inr (.inr (.inr xm))))), (aY, .inl (cY, 1024, .inl xw)), (aV, .inr (6, [.ref aC, .ref aP, .ref aO, .int vn, .int vd])), (aC, .inl (cC, 512, .inr (.inl vc))), (aP, .inl (cP, 512, .inl vp)), (aO, .inl (cO, 512, .inl vo)), (aT, .inr (2, [.ref aK, .ref aG, .ref aE, .ref aW, .int tn, .int ts])), (aK, .inl (cK, 1024, .inl tk)), (aW, .inl (cW, 1024, .inr (.inl tw)))] ++ np cB ns) s.heap := hP
  have hl := lv_entry [.ref aX, .ref aT] (n := 5) (Nat.le_of_ble_eq_true rfl)
  rw [lg_entry_eq]
  generalize (lg_sl [.ref aX, .ref aT] ++ List.replicate (5 - (lg_sl [.ref aX, .ref aT]).length) Slot.unset).toArray = ls at hl ⊢
  have hl : lv_has ls 5 [(0, .ref aX), (1, .ref aT)] := hl
  have loop_16 : ∀ (n : Nat) (xn : Int32) (xm : Nat → Option Nat) (xw : Nat → Int32) (vn : Int32) (vd : Int32) (vc : Nat → Int64) (vp : Nat → Int32) (vo : Nat → Int32) (tn : Int32) (tk : Nat → Int32) (tw : Nat → Int64) (ns : List NmR) (x2 : Int32) (x3 : Int32) (H : Heap) (locs : List Loc) (ls : Array Slot), f_X_workOut_l16 n xn xm xw vn vd vc vp vo tn tk tw ns x2 x3 = some o → va_P (dC, dI) vwCl ([(aX, .inr (5, [.ref aM, .ref aY, .int xn, .ref aV])), (aM, .inl (cM, 1024, .inr (.inr (.inr (.inr xm))))), (aY, .inl (cY, 1024, .inl xw)), (aV, .inr (6, [.ref aC, .ref aP, .ref aO, .int vn, .int vd])), (aC, .inl (cC, 512, .inr (.inl vc))), (aP, .inl (cP, 512, .inl vp)), (aO, .inl (cO, 512, .inl vo)), (aT, .inr (2, [.ref aK, .ref aG, .ref aE, .ref aW, .int tn, .int ts])), (aK, .inl (cK, 1024, .inl tk)), (aW, .inl (cW, 1024, .inr (.inl tw)))] ++ np cB ns) H → va_D A ([(aX, .inr (5, [.ref aM, .ref aY, .int xn, .ref aV])), (aM, .inl (cM, 1024, .inr (.inr (.inr (.inr xm))))), (aY, .inl (cY, 1024, .inl xw)), (aV, .inr (6, [.ref aC, .ref aP, .ref aO, .int vn, .int vd])), (aC, .inl (cC, 512, .inr (.inl vc))), (aP, .inl (cP, 512, .inl vp)), (aO, .inl (cO, 512, .inl vo)), (aT, .inr (2, [.ref aK, .ref aG, .ref aE, .ref aW, .int tn, .int ts])), (aK, .inl (cK, 1024, .inl tk)), (aW, .inl (cW, 1024, .inr (.inl tw)))] ++ np cB ns) → va_S A s.heap H locs → lv_has ls 5 [(0, .ref aX), (1, .ref aT), (2, .int x2), (3, .int x3)] → W p l e (headSpec (w_X_workOut) ({ frames := 4, cells := 0, slots := 0, locals := 96 })).room s m [.ref aX, .ref aT].toArray below meth c H locs 0 0 (MQ below (va_Qv (fun (_ : Unit) => True) (fun _ t => va_P (dC, dI) vwCl ([(aX, .inr (5, [.ref aM, .ref aY, .int o.1, .ref aV])), (aM, .inl (cM, 1024, .inr (.inr (.inr (.inr xm))))), (aY, .inl (cY, 1024, .inl o.2.1)), (aV, .inr (6, [.ref aC, .ref aP, .ref aO, .int o.2.2.1, .int o.2.2.2.1])), (aC, .inl (cC, 512, .inr (.inl o.2.2.2.2.1))), (aP, .inl (cP, 512, .inl o.2.2.2.2.2.1)), (aO, .inl (cO, 512, .inl o.2.2.2.2.2.2)), (aT, .inr (2, [.ref aK, .ref aG, .ref aE, .ref aW, .int tn, .int ts])), (aK, .inl (cK, 1024, .inl tk)), (aW, .inl (cW, 1024, .inr (.inl tw)))] ++ np cB ns) t.heap ∧ va_K (dC, dI) vwCl [(cM, (.object "ExpressionReader$Name")), (cY, .byte), (cC, .long), (cP, .int), (cO, .int), (cK, .byte), (cW, .long), (cB, .byte)] t ∧ va_D A ([(aX, .inr (5, [.ref aM, .ref aY, .int o.1, .ref aV])), (aM, .inl (cM, 1024, .inr (.inr (.inr (.inr xm))))), (aY, .inl (cY, 1024, .inl o.2.1)), (aV, .inr (6, [.ref aC, .ref aP, .ref aO, .int o.2.2.1, .int o.2.2.2.1])), (aC, .inl (cC, 512, .inr (.inl o.2.2.2.2.1))), (aP, .inl (cP, 512, .inl o.2.2.2.2.2.1)), (aO, .inl (cO, 512, .inl o.2.2.2.2.2.2)), (aT, .inr (2, [.ref aK, .ref aG, .ref aE, .ref aW, .int tn, .int ts])), (aK, .inl (cK, 1024, .inl tk)), (aW, .inl (cW, 1024, .inr (.inl tw)))] ++ np cB ns)) A) [.ref aX, .ref aT].toArray s 0 0 A) (F0 m 16 ls []) := by
    intro n
    induction n with
    | zero => intro xn xm xw vn vd vc vp vo tn tk tw ns x2 x3 H locs ls hf; exact absurd hf (by simp [f_X_workOut_l16])
    | succ n ih =>
      intro xn xm xw vn vd vc vp vo tn tk tw ns x2 x3 H locs ls hf hP hD hS hl
      rw [f_X_workOut_l16] at hf
      refine lv_iload_n hx hb d_X_workOut_16 rfl (lv_at hl 3 rfl) ?_
      refine lv_aload_n hx hb d_X_workOut_17 rfl (lv_at hl 1 rfl) ?_
      obtain ⟨o_2, hM_2, hf⟩ := bd_some hf
      refine cr_i (va_runV (As := []) (rest := [.int x3]) ⟨hx, hb, hml, hown, hts⟩ (c_T_size l dC dI aT aK aG aE aW  H.size tn ts  o_2 hM_2) (cwV 0 hts (gwV wb_149 wb_151 wb_152 wb_32 wb_150) rfl rfl rfl (by decide +kernel) ⟨Nat.le_of_ble_eq_true rfl, Nat.le_of_ble_eq_true rfl⟩) (pr_V (hP.sub [7] rfl) (hD.sub [7] (by decide) rfl) hK hN [] rfl (ci := 2) rfl rfl rfl) rfl rfl hl.1 rfl (lv_room (Nat.le_of_ble_eq_true rfl)) d_X_workOut_18 ⟨Nat.zero_le _, Nat.zero_le _⟩) hP hD hS hA (in_of [7] rfl) (fun r_2 H locs hw hP hS => ?_)
      subst r_2
      refine lv_icmp_ge (tgt := 127) hx hb d_X_workOut_21 (by decide) (fun c_3 => ?_) (fun c_3 => ?_)
      · rw [if_pos c_3] at hf
        refine lv_aload_n hx hb d_X_workOut_127 rfl (lv_at hl 0 rfl) ?_
        refine lv_iconst (v := (1 : Int32)) hx hb d_X_workOut_128 (by decide) ?_
        obtain ⟨o_4, hM_4, hf⟩ := bd_some hf
        refine cq_v (wr := [(aM, .inl (cM, 1024, .inr (.inr (.inr (.inr xm))))), (aT, .inr (2, [.ref aK, .ref aG, .ref aE, .ref aW, .int tn, .int ts])), (aK, .inl (cK, 1024, .inl tk)), (aW, .inl (cW, 1024, .inr (.inl tw)))]) (va_runV (As := [.int (1 : Int32)]) (rest := []) ⟨hx, hb, hml, hown, hts⟩ (c_X_applyWaiting l dC dI aX aM aY aV aC aP aO cY cC cP cO H.size xn xw vn vd vc vp vo (1 : Int32) o_4 hM_4) (cwV 1 hts (gwV wb_332 wb_334 wb_335 wb_158 wb_333) rfl rfl rfl (by decide +kernel) ⟨Nat.le_of_ble_eq_true rfl, Nat.le_of_ble_eq_true rfl⟩) (pr_V (hP.sub [0, 2, 3, 4, 5, 6] rfl) (hD.sub [0, 2, 3, 4, 5, 6] (by decide) rfl) hK hN [1, 2, 3, 4] rfl (ci := 5) rfl rfl rfl) rfl rfl hl.1 rfl (lv_room (Nat.le_of_ble_eq_true rfl)) d_X_workOut_129 ⟨Nat.zero_le _, Nat.zero_le _⟩) hP hD hS hA [0, 2, 3, 4, 5, 6] [1, 7, 8, 9] rfl rfl rfl (by decide) (by decide) (fun H locs hw hP hD hS => ?_)
        have hP : va_P (dC, dI) vwCl ([(aM, .inl (cM, 1024, .inr (.inr (.inr (.inr xm))))), (aT, .inr (2, [.ref aK, .ref aG, .ref aE, .ref aW, .int tn, .int ts])), (aK, .inl (cK, 1024, .inl tk)), (aW, .inl (cW, 1024, .inr (.inl tw))), (aX, .inr (5, [.ref aM, .ref aY, .int o_4.1, .ref aV])), (aY, .inl (cY, 1024, .inl xw)), (aV, .inr (6, [.ref aC, .ref aP, .ref aO, .int o_4.2.1, .int o_4.2.2.1])), (aC, .inl (cC, 512, .inr (.inl o_4.2.2.2.1))), (aP, .inl (cP, 512, .inl o_4.2.2.2.2.1)), (aO, .inl (cO, 512, .inl o_4.2.2.2.2.2))] ++ np cB ns) H := hP
        have hD : va_D A ([(aM, .inl (cM, 1024, .inr (.inr (.inr (.inr xm))))), (aT, .inr (2, [.ref aK, .ref aG, .ref aE, .ref aW, .int tn, .int ts])), (aK, .inl (cK, 1024, .inl tk)), (aW, .inl (cW, 1024, .inr (.inl tw))), (aX, .inr (5, [.ref aM, .ref aY, .int o_4.1, .ref aV])), (aY, .inl (cY, 1024, .inl xw)), (aV, .inr (6, [.ref aC, .ref aP, .ref aO, .int o_4.2.1, .int o_4.2.2.1])), (aC, .inl (cC, 512, .inr (.inl o_4.2.2.2.1))), (aP, .inl (cP, 512, .inl o_4.2.2.2.2.1)), (aO, .inl (cO, 512, .inl o_4.2.2.2.2.2))] ++ np cB ns) := hD
        have ho := Option.some.inj hf
        subst o
        have hP9 := hP.part (cx := [(aX, .inr (5, [.ref aM, .ref aY, .int o_4.1, .ref aV])), (aM, .inl (cM, 1024, .inr (.inr (.inr (.inr xm))))), (aY, .inl (cY, 1024, .inl xw)), (aV, .inr (6, [.ref aC, .ref aP, .ref aO, .int o_4.2.1, .int o_4.2.2.1])), (aC, .inl (cC, 512, .inr (.inl o_4.2.2.2.1))), (aP, .inl (cP, 512, .inl o_4.2.2.2.2.1)), (aO, .inl (cO, 512, .inl o_4.2.2.2.2.2)), (aT, .inr (2, [.ref aK, .ref aG, .ref aE, .ref aW, .int tn, .int ts])), (aK, .inl (cK, 1024, .inl tk)), (aW, .inl (cW, 1024, .inr (.inl tw)))]) [4, 0, 5, 6, 7, 8, 9, 1, 2, 3] rfl
        have hD9 := hD.part (cx := [(aX, .inr (5, [.ref aM, .ref aY, .int o_4.1, .ref aV])), (aM, .inl (cM, 1024, .inr (.inr (.inr (.inr xm))))), (aY, .inl (cY, 1024, .inl xw)), (aV, .inr (6, [.ref aC, .ref aP, .ref aO, .int o_4.2.1, .int o_4.2.2.1])), (aC, .inl (cC, 512, .inr (.inl o_4.2.2.2.1))), (aP, .inl (cP, 512, .inl o_4.2.2.2.2.1)), (aO, .inl (cO, 512, .inl o_4.2.2.2.2.2)), (aT, .inr (2, [.ref aK, .ref aG, .ref aE, .ref aW, .int tn, .int ts])), (aK, .inl (cK, 1024, .inl tk)), (aW, .inl (cW, 1024, .inr (.inl tw)))]) [4, 0, 5, 6, 7, 8, 9, 1, 2, 3] (by decide) rfl
        exact W.vret hx hb hr (fun t ht hW => ⟨⟨(), rfl, trivial, by rw [ht]; exact hP9, va_K.moved hW.alike hK, hD9⟩, hS.F ht⟩) hS.2.2 d_X_workOut_132
      · rw [if_neg c_3] at hf
        refine lv_aload_n hx hb d_X_workOut_24 rfl (lv_at hl 1 rfl) ?_
        refine lv_iload_n hx hb d_X_workOut_25 rfl (lv_at hl 3 rfl) ?_
        obtain ⟨o_5, hM_5, hf⟩ := bd_some hf
        refine cr_i (va_runV (As := [.int x3]) (rest := []) ⟨hx, hb, hml, hown, hts⟩ (c_T_signOf l dC dI aT aK aG aE aW cK cW H.size tn ts tk tw x3 o_5 hM_5) (cwV 1 hts (gwV wb_312 wb_314 wb_315 wb_32 wb_313) rfl rfl rfl (by decide +kernel) ⟨Nat.le_of_ble_eq_true rfl, Nat.le_of_ble_eq_true rfl⟩) (pr_V (hP.sub [7, 8, 9] rfl) (hD.sub [7, 8, 9] (by decide) rfl) hK hN [5, 6] rfl (ci := 2) rfl rfl rfl) rfl rfl hl.1 rfl (lv_room (Nat.le_of_ble_eq_true rfl)) d_X_workOut_26 ⟨Nat.zero_le _, Nat.zero_le _⟩) hP hD hS hA (in_of [7, 8, 9] rfl) (fun r_5 H locs hw hP hS => ?_)
        subst r_5
        refine lv_istore (lv' := [(4, .int o_5), (0, .ref aX), (1, .ref aT), (2, .int x2), (3, .int x3)]) hx hb d_X_workOut_29 hl (by decide) rfl (fun ls hl => ?_)
        refine lv_iload_n hx hb d_X_workOut_31 rfl (lv_at hl 3 rfl) ?_
        refine lv_if_eq (tgt := 85) hx hb d_X_workOut_32 (by decide) (fun c_6 => ?_) (fun c_6 => ?_)
        · rw [if_pos c_6] at hf
          refine lv_iload hx hb d_X_workOut_85 (lv_at hl 0 rfl) ?_
          refine lv_bipush (v := (41 : Int32)) hx hb d_X_workOut_87 (by decide) ?_
          refine lv_icmp_ne (tgt := 104) hx hb d_X_workOut_89 (by decide) (fun c_7 => ?_) (fun c_7 => ?_)
          · rw [if_neg c_7] at hf
            refine lv_aload_n hx hb d_X_workOut_104 rfl (lv_at hl 1 rfl) ?_
            refine lv_iload hx hb d_X_workOut_105 (lv_at hl 0 rfl) ?_
            obtain ⟨o_8, hM_8, hf⟩ := bd_some hf
            refine cr_i (va_runS (As := [.int o_5]) (rest := [.ref aX]) ⟨hx, hb, hml, hown, hts⟩ (c_X_rankOf l dC dI   H.size  o_5 o_8 hM_8) (va_cwS 1 hts (gwS wb_161 wb_163 wb_158 wb_162) rfl rfl rfl (by decide +kernel) ⟨Nat.le_of_ble_eq_true rfl, Nat.le_of_ble_eq_true rfl⟩) (pr_S (hP.sub [] rfl) (hD.sub [] (by decide) rfl) hK hN [] rfl) rfl rfl hl.1 rfl (lv_room (Nat.le_of_ble_eq_true rfl)) d_X_workOut_107 ⟨Nat.zero_le _, Nat.zero_le _⟩) hP hD hS hA (in_of [] rfl) (fun r_8 H locs hw hP hS => ?_)
            subst r_8
            obtain ⟨o_9, hM_9, hf⟩ := bd_some hf
            refine cq_v (wr := [(aM, .inl (cM, 1024, .inr (.inr (.inr (.inr xm))))), (aT, .inr (2, [.ref aK, .ref aG, .ref aE, .ref aW, .int tn, .int ts])), (aK, .inl (cK, 1024, .inl tk)), (aW, .inl (cW, 1024, .inr (.inl tw)))]) (va_runV (As := [.int o_8]) (rest := []) ⟨hx, hb, hml, hown, hts⟩ (c_X_applyWaiting l dC dI aX aM aY aV aC aP aO cY cC cP cO H.size xn xw vn vd vc vp vo o_8 o_9 hM_9) (cwV 1 hts (gwV wb_332 wb_334 wb_335 wb_158 wb_333) rfl rfl rfl (by decide +kernel) ⟨Nat.le_of_ble_eq_true rfl, Nat.le_of_ble_eq_true rfl⟩) (pr_V (hP.sub [0, 2, 3, 4, 5, 6] rfl) (hD.sub [0, 2, 3, 4, 5, 6] (by decide) rfl) hK hN [1, 2, 3, 4] rfl (ci := 5) rfl rfl rfl) rfl rfl hl.1 rfl (lv_room (Nat.le_of_ble_eq_true rfl)) d_X_workOut_110 ⟨Nat.zero_le _, Nat.zero_le _⟩) hP hD hS hA [0, 2, 3, 4, 5, 6] [1, 7, 8, 9] rfl rfl rfl (by decide) (by decide) (fun H locs hw hP hD hS => ?_)
            have hP : va_P (dC, dI) vwCl ([(aM, .inl (cM, 1024, .inr (.inr (.inr (.inr xm))))), (aT, .inr (2, [.ref aK, .ref aG, .ref aE, .ref aW, .int tn, .int ts])), (aK, .inl (cK, 1024, .inl tk)), (aW, .inl (cW, 1024, .inr (.inl tw))), (aX, .inr (5, [.ref aM, .ref aY, .int o_9.1, .ref aV])), (aY, .inl (cY, 1024, .inl xw)), (aV, .inr (6, [.ref aC, .ref aP, .ref aO, .int o_9.2.1, .int o_9.2.2.1])), (aC, .inl (cC, 512, .inr (.inl o_9.2.2.2.1))), (aP, .inl (cP, 512, .inl o_9.2.2.2.2.1)), (aO, .inl (cO, 512, .inl o_9.2.2.2.2.2))] ++ np cB ns) H := hP
            have hD : va_D A ([(aM, .inl (cM, 1024, .inr (.inr (.inr (.inr xm))))), (aT, .inr (2, [.ref aK, .ref aG, .ref aE, .ref aW, .int tn, .int ts])), (aK, .inl (cK, 1024, .inl tk)), (aW, .inl (cW, 1024, .inr (.inl tw))), (aX, .inr (5, [.ref aM, .ref aY, .int o_9.1, .ref aV])), (aY, .inl (cY, 1024, .inl xw)), (aV, .inr (6, [.ref aC, .ref aP, .ref aO, .int o_9.2.1, .int o_9.2.2.1])), (aC, .inl (cC, 512, .inr (.inl o_9.2.2.2.1))), (aP, .inl (cP, 512, .inl o_9.2.2.2.2.1)), (aO, .inl (cO, 512, .inl o_9.2.2.2.2.2))] ++ np cB ns) := hD
            refine lv_aload_n hx hb d_X_workOut_113 rfl (lv_at hl 1 rfl) ?_
            refine lv_iload hx hb d_X_workOut_114 (lv_at hl 0 rfl) ?_
            obtain ⟨o_10, hM_10, hf⟩ := bd_some hf
            refine cq_v (wr := [(aM, .inl (cM, 1024, .inr (.inr (.inr (.inr xm))))), (aT, .inr (2, [.ref aK, .ref aG, .ref aE, .ref aW, .int tn, .int ts])), (aK, .inl (cK, 1024, .inl tk)), (aW, .inl (cW, 1024, .inr (.inl tw))), (aV, .inr (6, [.ref aC, .ref aP, .ref aO, .int o_9.2.1, .int o_9.2.2.1])), (aC, .inl (cC, 512, .inr (.inl o_9.2.2.2.1))), (aP, .inl (cP, 512, .inl o_9.2.2.2.2.1)), (aO, .inl (cO, 512, .inl o_9.2.2.2.2.2))]) (va_runV (As := [.int o_5]) (rest := []) ⟨hx, hb, hml, hown, hts⟩ (c_X_letWait l dC dI aX aM aY aV aC aP aO cY H.size o_9.1 xw o_5 o_10 hM_10) (cwV 1 hts (gwV wb_336 wb_338 wb_339 wb_158 wb_337) rfl rfl rfl (by decide +kernel) ⟨Nat.le_of_ble_eq_true rfl, Nat.le_of_ble_eq_true rfl⟩) (pr_V (hP.sub [4, 5] rfl) (hD.sub [4, 5] (by decide) rfl) hK hN [1] rfl (ci := 5) rfl rfl rfl) rfl rfl hl.1 rfl (lv_room (Nat.le_of_ble_eq_true rfl)) d_X_workOut_116 ⟨Nat.zero_le _, Nat.zero_le _⟩) hP hD hS hA [4, 5] [0, 1, 2, 3, 6, 7, 8, 9] rfl rfl rfl (by decide) (by decide) (fun H locs hw hP hD hS => ?_)
            have hP : va_P (dC, dI) vwCl ([(aM, .inl (cM, 1024, .inr (.inr (.inr (.inr xm))))), (aT, .inr (2, [.ref aK, .ref aG, .ref aE, .ref aW, .int tn, .int ts])), (aK, .inl (cK, 1024, .inl tk)), (aW, .inl (cW, 1024, .inr (.inl tw))), (aV, .inr (6, [.ref aC, .ref aP, .ref aO, .int o_9.2.1, .int o_9.2.2.1])), (aC, .inl (cC, 512, .inr (.inl o_9.2.2.2.1))), (aP, .inl (cP, 512, .inl o_9.2.2.2.2.1)), (aO, .inl (cO, 512, .inl o_9.2.2.2.2.2)), (aX, .inr (5, [.ref aM, .ref aY, .int o_10.1, .ref aV])), (aY, .inl (cY, 1024, .inl o_10.2))] ++ np cB ns) H := hP
            have hD : va_D A ([(aM, .inl (cM, 1024, .inr (.inr (.inr (.inr xm))))), (aT, .inr (2, [.ref aK, .ref aG, .ref aE, .ref aW, .int tn, .int ts])), (aK, .inl (cK, 1024, .inl tk)), (aW, .inl (cW, 1024, .inr (.inl tw))), (aV, .inr (6, [.ref aC, .ref aP, .ref aO, .int o_9.2.1, .int o_9.2.2.1])), (aC, .inl (cC, 512, .inr (.inl o_9.2.2.2.1))), (aP, .inl (cP, 512, .inl o_9.2.2.2.2.1)), (aO, .inl (cO, 512, .inl o_9.2.2.2.2.2)), (aX, .inr (5, [.ref aM, .ref aY, .int o_10.1, .ref aV])), (aY, .inl (cY, 1024, .inl o_10.2))] ++ np cB ns) := hD
            refine lv_iconst (v := (1 : Int32)) hx hb d_X_workOut_119 (by decide) ?_
            refine lv_istore_n (lv' := [(2, .int (1 : Int32)), (4, .int o_5), (0, .ref aX), (1, .ref aT), (3, .int x3)]) hx hb d_X_workOut_120 rfl hl (by decide) rfl (fun ls hl => ?_)
            refine lv_iinc (v := x3 + (1 : Int32)) (lv' := [(3, .int (x3 + (1 : Int32))), (2, .int (1 : Int32)), (4, .int o_5), (0, .ref aX), (1, .ref aT)]) hx hb d_X_workOut_121 hl (k := 4) rfl rfl (by decide) rfl (fun ls hl => ?_)
            refine lv_goto (tgt := 16) hx hb d_X_workOut_124 (by decide) ?_
            exact ih o_10.1 xm o_10.2 o_9.2.1 o_9.2.2.1 o_9.2.2.2.1 o_9.2.2.2.2.1 o_9.2.2.2.2.2 tn tk tw ns (1 : Int32) (x3 + (1 : Int32)) H locs ls hf (hP.part (cx := [(aX, .inr (5, [.ref aM, .ref aY, .int o_10.1, .ref aV])), (aM, .inl (cM, 1024, .inr (.inr (.inr (.inr xm))))), (aY, .inl (cY, 1024, .inl o_10.2)), (aV, .inr (6, [.ref aC, .ref aP, .ref aO, .int o_9.2.1, .int o_9.2.2.1])), (aC, .inl (cC, 512, .inr (.inl o_9.2.2.2.1))), (aP, .inl (cP, 512, .inl o_9.2.2.2.2.1)), (aO, .inl (cO, 512, .inl o_9.2.2.2.2.2)), (aT, .inr (2, [.ref aK, .ref aG, .ref aE, .ref aW, .int tn, .int ts])), (aK, .inl (cK, 1024, .inl tk)), (aW, .inl (cW, 1024, .inr (.inl tw)))]) [8, 0, 9, 4, 5, 6, 7, 1, 2, 3] rfl) (hD.part (cx := [(aX, .inr (5, [.ref aM, .ref aY, .int o_10.1, .ref aV])), (aM, .inl (cM, 1024, .inr (.inr (.inr (.inr xm))))), (aY, .inl (cY, 1024, .inl o_10.2)), (aV, .inr (6, [.ref aC, .ref aP, .ref aO, .int o_9.2.1, .int o_9.2.2.1])), (aC, .inl (cC, 512, .inr (.inl o_9.2.2.2.1))), (aP, .inl (cP, 512, .inl o_9.2.2.2.2.1)), (aO, .inl (cO, 512, .inl o_9.2.2.2.2.2)), (aT, .inr (2, [.ref aK, .ref aG, .ref aE, .ref aW, .int tn, .int ts])), (aK, .inl (cK, 1024, .inl tk)), (aW, .inl (cW, 1024, .inr (.inl tw)))]) [8, 0, 9, 4, 5, 6, 7, 1, 2, 3] (by decide) rfl) hS (lv_sub hl [3, 4, 1, 0] rfl)
          · rw [if_pos c_7] at hf
            refine lv_aload_n hx hb d_X_workOut_92 rfl (lv_at hl 1 rfl) ?_
            refine lv_iconst (v := (1 : Int32)) hx hb d_X_workOut_93 (by decide) ?_
            obtain ⟨o_11, hM_11, hf⟩ := bd_some hf
            refine cq_v (wr := [(aM, .inl (cM, 1024, .inr (.inr (.inr (.inr xm))))), (aT, .inr (2, [.ref aK, .ref aG, .ref aE, .ref aW, .int tn, .int ts])), (aK, .inl (cK, 1024, .inl tk)), (aW, .inl (cW, 1024, .inr (.inl tw)))]) (va_runV (As := [.int (1 : Int32)]) (rest := []) ⟨hx, hb, hml, hown, hts⟩ (c_X_applyWaiting l dC dI aX aM aY aV aC aP aO cY cC cP cO H.size xn xw vn vd vc vp vo (1 : Int32) o_11 hM_11) (cwV 1 hts (gwV wb_332 wb_334 wb_335 wb_158 wb_333) rfl rfl rfl (by decide +kernel) ⟨Nat.le_of_ble_eq_true rfl, Nat.le_of_ble_eq_true rfl⟩) (pr_V (hP.sub [0, 2, 3, 4, 5, 6] rfl) (hD.sub [0, 2, 3, 4, 5, 6] (by decide) rfl) hK hN [1, 2, 3, 4] rfl (ci := 5) rfl rfl rfl) rfl rfl hl.1 rfl (lv_room (Nat.le_of_ble_eq_true rfl)) d_X_workOut_94 ⟨Nat.zero_le _, Nat.zero_le _⟩) hP hD hS hA [0, 2, 3, 4, 5, 6] [1, 7, 8, 9] rfl rfl rfl (by decide) (by decide) (fun H locs hw hP hD hS => ?_)
            have hP : va_P (dC, dI) vwCl ([(aM, .inl (cM, 1024, .inr (.inr (.inr (.inr xm))))), (aT, .inr (2, [.ref aK, .ref aG, .ref aE, .ref aW, .int tn, .int ts])), (aK, .inl (cK, 1024, .inl tk)), (aW, .inl (cW, 1024, .inr (.inl tw))), (aX, .inr (5, [.ref aM, .ref aY, .int o_11.1, .ref aV])), (aY, .inl (cY, 1024, .inl xw)), (aV, .inr (6, [.ref aC, .ref aP, .ref aO, .int o_11.2.1, .int o_11.2.2.1])), (aC, .inl (cC, 512, .inr (.inl o_11.2.2.2.1))), (aP, .inl (cP, 512, .inl o_11.2.2.2.2.1)), (aO, .inl (cO, 512, .inl o_11.2.2.2.2.2))] ++ np cB ns) H := hP
            have hD : va_D A ([(aM, .inl (cM, 1024, .inr (.inr (.inr (.inr xm))))), (aT, .inr (2, [.ref aK, .ref aG, .ref aE, .ref aW, .int tn, .int ts])), (aK, .inl (cK, 1024, .inl tk)), (aW, .inl (cW, 1024, .inr (.inl tw))), (aX, .inr (5, [.ref aM, .ref aY, .int o_11.1, .ref aV])), (aY, .inl (cY, 1024, .inl xw)), (aV, .inr (6, [.ref aC, .ref aP, .ref aO, .int o_11.2.1, .int o_11.2.2.1])), (aC, .inl (cC, 512, .inr (.inl o_11.2.2.2.1))), (aP, .inl (cP, 512, .inl o_11.2.2.2.2.1)), (aO, .inl (cO, 512, .inl o_11.2.2.2.2.2))] ++ np cB ns) := hD
            refine lv_aload_n hx hb d_X_workOut_97 rfl (lv_at hl 1 rfl) ?_
            obtain ⟨o_12, hM_12, hf⟩ := bd_some hf
            refine cq_v (wr := [(aM, .inl (cM, 1024, .inr (.inr (.inr (.inr xm))))), (aT, .inr (2, [.ref aK, .ref aG, .ref aE, .ref aW, .int tn, .int ts])), (aK, .inl (cK, 1024, .inl tk)), (aW, .inl (cW, 1024, .inr (.inl tw))), (aY, .inl (cY, 1024, .inl xw)), (aV, .inr (6, [.ref aC, .ref aP, .ref aO, .int o_11.2.1, .int o_11.2.2.1])), (aC, .inl (cC, 512, .inr (.inl o_11.2.2.2.1))), (aP, .inl (cP, 512, .inl o_11.2.2.2.2.1)), (aO, .inl (cO, 512, .inl o_11.2.2.2.2.2))]) (va_runV (As := []) (rest := []) ⟨hx, hb, hml, hown, hts⟩ (c_X_dropBracket l dC dI aX aM aY aV aC aP aO  H.size o_11.1  o_12 hM_12) (cwV 0 hts (gwV wb_340 wb_342 wb_343 wb_158 wb_341) rfl rfl rfl (by decide +kernel) ⟨Nat.le_of_ble_eq_true rfl, Nat.le_of_ble_eq_true rfl⟩) (pr_V (hP.sub [4] rfl) (hD.sub [4] (by decide) rfl) hK hN [] rfl (ci := 5) rfl rfl rfl) rfl rfl hl.1 rfl (lv_room (Nat.le_of_ble_eq_true rfl)) d_X_workOut_98 ⟨Nat.zero_le _, Nat.zero_le _⟩) hP hD hS hA [4] [0, 1, 2, 3, 5, 6, 7, 8, 9] rfl rfl rfl (by decide) (by decide) (fun H locs hw hP hD hS => ?_)
            have hP : va_P (dC, dI) vwCl ([(aM, .inl (cM, 1024, .inr (.inr (.inr (.inr xm))))), (aT, .inr (2, [.ref aK, .ref aG, .ref aE, .ref aW, .int tn, .int ts])), (aK, .inl (cK, 1024, .inl tk)), (aW, .inl (cW, 1024, .inr (.inl tw))), (aY, .inl (cY, 1024, .inl xw)), (aV, .inr (6, [.ref aC, .ref aP, .ref aO, .int o_11.2.1, .int o_11.2.2.1])), (aC, .inl (cC, 512, .inr (.inl o_11.2.2.2.1))), (aP, .inl (cP, 512, .inl o_11.2.2.2.2.1)), (aO, .inl (cO, 512, .inl o_11.2.2.2.2.2)), (aX, .inr (5, [.ref aM, .ref aY, .int o_12, .ref aV]))] ++ np cB ns) H := hP
            have hD : va_D A ([(aM, .inl (cM, 1024, .inr (.inr (.inr (.inr xm))))), (aT, .inr (2, [.ref aK, .ref aG, .ref aE, .ref aW, .int tn, .int ts])), (aK, .inl (cK, 1024, .inl tk)), (aW, .inl (cW, 1024, .inr (.inl tw))), (aY, .inl (cY, 1024, .inl xw)), (aV, .inr (6, [.ref aC, .ref aP, .ref aO, .int o_11.2.1, .int o_11.2.2.1])), (aC, .inl (cC, 512, .inr (.inl o_11.2.2.2.1))), (aP, .inl (cP, 512, .inl o_11.2.2.2.2.1)), (aO, .inl (cO, 512, .inl o_11.2.2.2.2.2)), (aX, .inr (5, [.ref aM, .ref aY, .int o_12, .ref aV]))] ++ np cB ns) := hD
            refine lv_goto (tgt := 121) hx hb d_X_workOut_101 (by decide) ?_
            refine lv_iinc (v := x3 + (1 : Int32)) (lv' := [(3, .int (x3 + (1 : Int32))), (4, .int o_5), (0, .ref aX), (1, .ref aT), (2, .int x2)]) hx hb d_X_workOut_121 hl (k := 4) rfl rfl (by decide) rfl (fun ls hl => ?_)
            refine lv_goto (tgt := 16) hx hb d_X_workOut_124 (by decide) ?_
            exact ih o_12 xm xw o_11.2.1 o_11.2.2.1 o_11.2.2.2.1 o_11.2.2.2.2.1 o_11.2.2.2.2.2 tn tk tw ns x2 (x3 + (1 : Int32)) H locs ls hf (hP.part (cx := [(aX, .inr (5, [.ref aM, .ref aY, .int o_12, .ref aV])), (aM, .inl (cM, 1024, .inr (.inr (.inr (.inr xm))))), (aY, .inl (cY, 1024, .inl xw)), (aV, .inr (6, [.ref aC, .ref aP, .ref aO, .int o_11.2.1, .int o_11.2.2.1])), (aC, .inl (cC, 512, .inr (.inl o_11.2.2.2.1))), (aP, .inl (cP, 512, .inl o_11.2.2.2.2.1)), (aO, .inl (cO, 512, .inl o_11.2.2.2.2.2)), (aT, .inr (2, [.ref aK, .ref aG, .ref aE, .ref aW, .int tn, .int ts])), (aK, .inl (cK, 1024, .inl tk)), (aW, .inl (cW, 1024, .inr (.inl tw)))]) [9, 0, 4, 5, 6, 7, 8, 1, 2, 3] rfl) (hD.part (cx := [(aX, .inr (5, [.ref aM, .ref aY, .int o_12, .ref aV])), (aM, .inl (cM, 1024, .inr (.inr (.inr (.inr xm))))), (aY, .inl (cY, 1024, .inl xw)), (aV, .inr (6, [.ref aC, .ref aP, .ref aO, .int o_11.2.1, .int o_11.2.2.1])), (aC, .inl (cC, 512, .inr (.inl o_11.2.2.2.1))), (aP, .inl (cP, 512, .inl o_11.2.2.2.2.1)), (aO, .inl (cO, 512, .inl o_11.2.2.2.2.2)), (aT, .inr (2, [.ref aK, .ref aG, .ref aE, .ref aW, .int tn, .int ts])), (aK, .inl (cK, 1024, .inl tk)), (aW, .inl (cW, 1024, .inr (.inl tw)))]) [9, 0, 4, 5, 6, 7, 8, 1, 2, 3] (by decide) rfl) hS (lv_sub hl [2, 3, 4, 0] rfl)
        · rw [if_neg c_6] at hf
          refine lv_aload_n hx hb d_X_workOut_35 rfl (lv_at hl 1 rfl) ?_
          refine lv_aload_n hx hb d_X_workOut_36 rfl (lv_at hl 2 rfl) ?_
          refine lv_iload_n hx hb d_X_workOut_37 rfl (lv_at hl 4 rfl) ?_
          obtain ⟨o_13, hM_13, hf⟩ := bd_some hf
          refine cr_i (va_runV (As := [.ref aT, .int x3]) (rest := []) ⟨hx, hb, hml, hown, hts⟩ (c_X_isOperand l dC dI aX aM aY aV aC aP aO aT aK aG aE aW cM cK cW cB H.size xn xm tn ts tk tw ns x3 o_13 hM_13) (cwV 2 hts (gwV wb_316 wb_318 wb_319 wb_158 wb_317) rfl rfl rfl (by decide +kernel) ⟨Nat.le_of_ble_eq_true rfl, Nat.le_of_ble_eq_true rfl⟩) (pr_V (hP.part [0, 1, 7, 8, 9] rfl) (hD.part [0, 1, 7, 8, 9] (by decide) rfl) hK hN [0, 5, 6, 7] rfl (ci := 5) rfl rfl rfl) rfl rfl hl.1 rfl (lv_room (Nat.le_of_ble_eq_true rfl)) d_X_workOut_38 ⟨Nat.zero_le _, Nat.zero_le _⟩) hP hD hS hA (in_pool [0, 1, 7, 8, 9] rfl) (fun r_13 H locs hw hP hS => ?_)
          obtain ⟨hw, hz_13⟩ := hw
          subst r_13
          refine lv_if_ne (tgt := 48) hx hb d_X_workOut_41 (by decide) (fun c_14 => ?_) (fun c_14 => ?_)
          · rw [if_neg c_14] at hf
            refine lv_iconst (v := (0 : Int32)) hx hb d_X_workOut_48 (by decide) ?_
            refine lv_istore_n (lv' := [(2, .int (0 : Int32)), (4, .int o_5), (0, .ref aX), (1, .ref aT), (3, .int x3)]) hx hb d_X_workOut_49 rfl hl (by decide) rfl (fun ls hl => ?_)
            refine lv_iload_n hx hb d_X_workOut_50 rfl (lv_at hl 0 rfl) ?_
            refine lv_if_eq (tgt := 76) hx hb d_X_workOut_51 (by decide) (fun c_15 => ?_) (fun c_15 => ?_)
            · rw [if_pos c_15] at hf
              refine lv_aload_n hx hb d_X_workOut_76 rfl (lv_at hl 2 rfl) ?_
              refine lv_aload_n hx hb d_X_workOut_77 rfl (lv_at hl 3 rfl) ?_
              refine lv_iload_n hx hb d_X_workOut_78 rfl (lv_at hl 4 rfl) ?_
              obtain ⟨o_16, hM_16, hf⟩ := bd_some hf
              refine cp_v (wr := [(aY, .inl (cY, 1024, .inl xw))]) (va_runV (As := [.ref aT, .int x3]) (rest := []) ⟨hx, hb, hml, hown, hts⟩ (c_X_pushOperand l dC dI aX aM aY aV aC aP aO aT aK aG aE aW cM cC cP cO cK cW cB H.size xn xm vn vd vc vp vo tn ts tk tw ns x3 o_16 hM_16) (cwV 2 hts (gwV wb_344 wb_346 wb_347 wb_158 wb_345) rfl rfl rfl (by decide +kernel) ⟨Nat.le_of_ble_eq_true rfl, Nat.le_of_ble_eq_true rfl⟩) (pr_V (hP.part [0, 1, 3, 4, 5, 6, 7, 8, 9] rfl) (hD.part [0, 1, 3, 4, 5, 6, 7, 8, 9] (by decide) rfl) hK hN [0, 2, 3, 4, 5, 6, 7] rfl (ci := 5) rfl rfl rfl) rfl rfl hl.1 rfl (lv_room (Nat.le_of_ble_eq_true rfl)) d_X_workOut_79 ⟨Nat.zero_le _, Nat.zero_le _⟩) hP hD hS hA [0, 1, 3, 4, 5, 6, 7, 8, 9] [2] rfl rfl (by decide) (by decide) (fun H locs hw hP hD hS => ?_)
              have hP : va_P (dC, dI) vwCl ([(aY, .inl (cY, 1024, .inl xw)), (aX, .inr (5, [.ref aM, .ref aY, .int xn, .ref aV])), (aM, .inl (cM, 1024, .inr (.inr (.inr (.inr xm))))), (aV, .inr (6, [.ref aC, .ref aP, .ref aO, .int o_16.1, .int vd])), (aC, .inl (cC, 512, .inr (.inl o_16.2.1))), (aP, .inl (cP, 512, .inl o_16.2.2.1)), (aO, .inl (cO, 512, .inl o_16.2.2.2)), (aT, .inr (2, [.ref aK, .ref aG, .ref aE, .ref aW, .int tn, .int ts])), (aK, .inl (cK, 1024, .inl tk)), (aW, .inl (cW, 1024, .inr (.inl tw)))] ++ np cB ns) H := hP
              have hD : va_D A ([(aY, .inl (cY, 1024, .inl xw)), (aX, .inr (5, [.ref aM, .ref aY, .int xn, .ref aV])), (aM, .inl (cM, 1024, .inr (.inr (.inr (.inr xm))))), (aV, .inr (6, [.ref aC, .ref aP, .ref aO, .int o_16.1, .int vd])), (aC, .inl (cC, 512, .inr (.inl o_16.2.1))), (aP, .inl (cP, 512, .inl o_16.2.2.1)), (aO, .inl (cO, 512, .inl o_16.2.2.2)), (aT, .inr (2, [.ref aK, .ref aG, .ref aE, .ref aW, .int tn, .int ts])), (aK, .inl (cK, 1024, .inl tk)), (aW, .inl (cW, 1024, .inr (.inl tw)))] ++ np cB ns) := hD
              refine lv_goto (tgt := 121) hx hb d_X_workOut_82 (by decide) ?_
              refine lv_iinc (v := x3 + (1 : Int32)) (lv' := [(3, .int (x3 + (1 : Int32))), (2, .int (0 : Int32)), (4, .int o_5), (0, .ref aX), (1, .ref aT)]) hx hb d_X_workOut_121 hl (k := 4) rfl rfl (by decide) rfl (fun ls hl => ?_)
              refine lv_goto (tgt := 16) hx hb d_X_workOut_124 (by decide) ?_
              exact ih xn xm xw o_16.1 vd o_16.2.1 o_16.2.2.1 o_16.2.2.2 tn tk tw ns (0 : Int32) (x3 + (1 : Int32)) H locs ls hf (hP.part (cx := [(aX, .inr (5, [.ref aM, .ref aY, .int xn, .ref aV])), (aM, .inl (cM, 1024, .inr (.inr (.inr (.inr xm))))), (aY, .inl (cY, 1024, .inl xw)), (aV, .inr (6, [.ref aC, .ref aP, .ref aO, .int o_16.1, .int vd])), (aC, .inl (cC, 512, .inr (.inl o_16.2.1))), (aP, .inl (cP, 512, .inl o_16.2.2.1)), (aO, .inl (cO, 512, .inl o_16.2.2.2)), (aT, .inr (2, [.ref aK, .ref aG, .ref aE, .ref aW, .int tn, .int ts])), (aK, .inl (cK, 1024, .inl tk)), (aW, .inl (cW, 1024, .inr (.inl tw)))]) [1, 2, 0, 3, 4, 5, 6, 7, 8, 9] rfl) (hD.part (cx := [(aX, .inr (5, [.ref aM, .ref aY, .int xn, .ref aV])), (aM, .inl (cM, 1024, .inr (.inr (.inr (.inr xm))))), (aY, .inl (cY, 1024, .inl xw)), (aV, .inr (6, [.ref aC, .ref aP, .ref aO, .int o_16.1, .int vd])), (aC, .inl (cC, 512, .inr (.inl o_16.2.1))), (aP, .inl (cP, 512, .inl o_16.2.2.1)), (aO, .inl (cO, 512, .inl o_16.2.2.2)), (aT, .inr (2, [.ref aK, .ref aG, .ref aE, .ref aW, .int tn, .int ts])), (aK, .inl (cK, 1024, .inl tk)), (aW, .inl (cW, 1024, .inr (.inl tw)))]) [1, 2, 0, 3, 4, 5, 6, 7, 8, 9] (by decide) rfl) hS (lv_sub hl [3, 4, 1, 0] rfl)
            · rw [if_neg c_15] at hf
              refine lv_aload_n hx hb d_X_workOut_54 rfl (lv_at hl 2 rfl) ?_
              refine lv_iload hx hb d_X_workOut_55 (lv_at hl 1 rfl) ?_
              refine lv_bipush (v := (40 : Int32)) hx hb d_X_workOut_57 (by decide) ?_
              refine lv_icmp_ne (tgt := 67) hx hb d_X_workOut_59 (by decide) (fun c_17 => ?_) (fun c_17 => ?_)
              · rw [if_neg c_17] at hf
                refine lv_iload hx hb d_X_workOut_67 (lv_at hl 1 rfl) ?_
                refine lv_ineg hx hb d_X_workOut_69 ?_
                obtain ⟨o_18, hM_18, hf⟩ := bd_some hf
                refine cq_v (wr := [(aM, .inl (cM, 1024, .inr (.inr (.inr (.inr xm))))), (aV, .inr (6, [.ref aC, .ref aP, .ref aO, .int vn, .int vd])), (aC, .inl (cC, 512, .inr (.inl vc))), (aP, .inl (cP, 512, .inl vp)), (aO, .inl (cO, 512, .inl vo)), (aT, .inr (2, [.ref aK, .ref aG, .ref aE, .ref aW, .int tn, .int ts])), (aK, .inl (cK, 1024, .inl tk)), (aW, .inl (cW, 1024, .inr (.inl tw)))]) (va_runV (As := [.int (-o_5)]) (rest := []) ⟨hx, hb, hml, hown, hts⟩ (c_X_letWait l dC dI aX aM aY aV aC aP aO cY H.size xn xw (-o_5) o_18 hM_18) (cwV 1 hts (gwV wb_336 wb_338 wb_339 wb_158 wb_337) rfl rfl rfl (by decide +kernel) ⟨Nat.le_of_ble_eq_true rfl, Nat.le_of_ble_eq_true rfl⟩) (pr_V (hP.sub [0, 2] rfl) (hD.sub [0, 2] (by decide) rfl) hK hN [1] rfl (ci := 5) rfl rfl rfl) rfl rfl hl.1 rfl (lv_room (Nat.le_of_ble_eq_true rfl)) d_X_workOut_70 ⟨Nat.zero_le _, Nat.zero_le _⟩) hP hD hS hA [0, 2] [1, 3, 4, 5, 6, 7, 8, 9] rfl rfl rfl (by decide) (by decide) (fun H locs hw hP hD hS => ?_)
                have hP : va_P (dC, dI) vwCl ([(aM, .inl (cM, 1024, .inr (.inr (.inr (.inr xm))))), (aV, .inr (6, [.ref aC, .ref aP, .ref aO, .int vn, .int vd])), (aC, .inl (cC, 512, .inr (.inl vc))), (aP, .inl (cP, 512, .inl vp)), (aO, .inl (cO, 512, .inl vo)), (aT, .inr (2, [.ref aK, .ref aG, .ref aE, .ref aW, .int tn, .int ts])), (aK, .inl (cK, 1024, .inl tk)), (aW, .inl (cW, 1024, .inr (.inl tw))), (aX, .inr (5, [.ref aM, .ref aY, .int o_18.1, .ref aV])), (aY, .inl (cY, 1024, .inl o_18.2))] ++ np cB ns) H := hP
                have hD : va_D A ([(aM, .inl (cM, 1024, .inr (.inr (.inr (.inr xm))))), (aV, .inr (6, [.ref aC, .ref aP, .ref aO, .int vn, .int vd])), (aC, .inl (cC, 512, .inr (.inl vc))), (aP, .inl (cP, 512, .inl vp)), (aO, .inl (cO, 512, .inl vo)), (aT, .inr (2, [.ref aK, .ref aG, .ref aE, .ref aW, .int tn, .int ts])), (aK, .inl (cK, 1024, .inl tk)), (aW, .inl (cW, 1024, .inr (.inl tw))), (aX, .inr (5, [.ref aM, .ref aY, .int o_18.1, .ref aV])), (aY, .inl (cY, 1024, .inl o_18.2))] ++ np cB ns) := hD
                refine lv_goto (tgt := 121) hx hb d_X_workOut_73 (by decide) ?_
                refine lv_iinc (v := x3 + (1 : Int32)) (lv' := [(3, .int (x3 + (1 : Int32))), (2, .int (0 : Int32)), (4, .int o_5), (0, .ref aX), (1, .ref aT)]) hx hb d_X_workOut_121 hl (k := 4) rfl rfl (by decide) rfl (fun ls hl => ?_)
                refine lv_goto (tgt := 16) hx hb d_X_workOut_124 (by decide) ?_
                exact ih o_18.1 xm o_18.2 vn vd vc vp vo tn tk tw ns (0 : Int32) (x3 + (1 : Int32)) H locs ls hf (hP.part (cx := [(aX, .inr (5, [.ref aM, .ref aY, .int o_18.1, .ref aV])), (aM, .inl (cM, 1024, .inr (.inr (.inr (.inr xm))))), (aY, .inl (cY, 1024, .inl o_18.2)), (aV, .inr (6, [.ref aC, .ref aP, .ref aO, .int vn, .int vd])), (aC, .inl (cC, 512, .inr (.inl vc))), (aP, .inl (cP, 512, .inl vp)), (aO, .inl (cO, 512, .inl vo)), (aT, .inr (2, [.ref aK, .ref aG, .ref aE, .ref aW, .int tn, .int ts])), (aK, .inl (cK, 1024, .inl tk)), (aW, .inl (cW, 1024, .inr (.inl tw)))]) [8, 0, 9, 1, 2, 3, 4, 5, 6, 7] rfl) (hD.part (cx := [(aX, .inr (5, [.ref aM, .ref aY, .int o_18.1, .ref aV])), (aM, .inl (cM, 1024, .inr (.inr (.inr (.inr xm))))), (aY, .inl (cY, 1024, .inl o_18.2)), (aV, .inr (6, [.ref aC, .ref aP, .ref aO, .int vn, .int vd])), (aC, .inl (cC, 512, .inr (.inl vc))), (aP, .inl (cP, 512, .inl vp)), (aO, .inl (cO, 512, .inl vo)), (aT, .inr (2, [.ref aK, .ref aG, .ref aE, .ref aW, .int tn, .int ts])), (aK, .inl (cK, 1024, .inl tk)), (aW, .inl (cW, 1024, .inr (.inl tw)))]) [8, 0, 9, 1, 2, 3, 4, 5, 6, 7] (by decide) rfl) hS (lv_sub hl [3, 4, 1, 0] rfl)
              · rw [if_pos c_17] at hf
                refine lv_iload hx hb d_X_workOut_62 (lv_at hl 1 rfl) ?_
                refine lv_goto (tgt := 70) hx hb d_X_workOut_64 (by decide) ?_
                obtain ⟨o_19, hM_19, hf⟩ := bd_some hf
                refine cq_v (wr := [(aM, .inl (cM, 1024, .inr (.inr (.inr (.inr xm))))), (aV, .inr (6, [.ref aC, .ref aP, .ref aO, .int vn, .int vd])), (aC, .inl (cC, 512, .inr (.inl vc))), (aP, .inl (cP, 512, .inl vp)), (aO, .inl (cO, 512, .inl vo)), (aT, .inr (2, [.ref aK, .ref aG, .ref aE, .ref aW, .int tn, .int ts])), (aK, .inl (cK, 1024, .inl tk)), (aW, .inl (cW, 1024, .inr (.inl tw)))]) (va_runV (As := [.int o_5]) (rest := []) ⟨hx, hb, hml, hown, hts⟩ (c_X_letWait l dC dI aX aM aY aV aC aP aO cY H.size xn xw o_5 o_19 hM_19) (cwV 1 hts (gwV wb_336 wb_338 wb_339 wb_158 wb_337) rfl rfl rfl (by decide +kernel) ⟨Nat.le_of_ble_eq_true rfl, Nat.le_of_ble_eq_true rfl⟩) (pr_V (hP.sub [0, 2] rfl) (hD.sub [0, 2] (by decide) rfl) hK hN [1] rfl (ci := 5) rfl rfl rfl) rfl rfl hl.1 rfl (lv_room (Nat.le_of_ble_eq_true rfl)) d_X_workOut_70 ⟨Nat.zero_le _, Nat.zero_le _⟩) hP hD hS hA [0, 2] [1, 3, 4, 5, 6, 7, 8, 9] rfl rfl rfl (by decide) (by decide) (fun H locs hw hP hD hS => ?_)
                have hP : va_P (dC, dI) vwCl ([(aM, .inl (cM, 1024, .inr (.inr (.inr (.inr xm))))), (aV, .inr (6, [.ref aC, .ref aP, .ref aO, .int vn, .int vd])), (aC, .inl (cC, 512, .inr (.inl vc))), (aP, .inl (cP, 512, .inl vp)), (aO, .inl (cO, 512, .inl vo)), (aT, .inr (2, [.ref aK, .ref aG, .ref aE, .ref aW, .int tn, .int ts])), (aK, .inl (cK, 1024, .inl tk)), (aW, .inl (cW, 1024, .inr (.inl tw))), (aX, .inr (5, [.ref aM, .ref aY, .int o_19.1, .ref aV])), (aY, .inl (cY, 1024, .inl o_19.2))] ++ np cB ns) H := hP
                have hD : va_D A ([(aM, .inl (cM, 1024, .inr (.inr (.inr (.inr xm))))), (aV, .inr (6, [.ref aC, .ref aP, .ref aO, .int vn, .int vd])), (aC, .inl (cC, 512, .inr (.inl vc))), (aP, .inl (cP, 512, .inl vp)), (aO, .inl (cO, 512, .inl vo)), (aT, .inr (2, [.ref aK, .ref aG, .ref aE, .ref aW, .int tn, .int ts])), (aK, .inl (cK, 1024, .inl tk)), (aW, .inl (cW, 1024, .inr (.inl tw))), (aX, .inr (5, [.ref aM, .ref aY, .int o_19.1, .ref aV])), (aY, .inl (cY, 1024, .inl o_19.2))] ++ np cB ns) := hD
                refine lv_goto (tgt := 121) hx hb d_X_workOut_73 (by decide) ?_
                refine lv_iinc (v := x3 + (1 : Int32)) (lv' := [(3, .int (x3 + (1 : Int32))), (2, .int (0 : Int32)), (4, .int o_5), (0, .ref aX), (1, .ref aT)]) hx hb d_X_workOut_121 hl (k := 4) rfl rfl (by decide) rfl (fun ls hl => ?_)
                refine lv_goto (tgt := 16) hx hb d_X_workOut_124 (by decide) ?_
                exact ih o_19.1 xm o_19.2 vn vd vc vp vo tn tk tw ns (0 : Int32) (x3 + (1 : Int32)) H locs ls hf (hP.part (cx := [(aX, .inr (5, [.ref aM, .ref aY, .int o_19.1, .ref aV])), (aM, .inl (cM, 1024, .inr (.inr (.inr (.inr xm))))), (aY, .inl (cY, 1024, .inl o_19.2)), (aV, .inr (6, [.ref aC, .ref aP, .ref aO, .int vn, .int vd])), (aC, .inl (cC, 512, .inr (.inl vc))), (aP, .inl (cP, 512, .inl vp)), (aO, .inl (cO, 512, .inl vo)), (aT, .inr (2, [.ref aK, .ref aG, .ref aE, .ref aW, .int tn, .int ts])), (aK, .inl (cK, 1024, .inl tk)), (aW, .inl (cW, 1024, .inr (.inl tw)))]) [8, 0, 9, 1, 2, 3, 4, 5, 6, 7] rfl) (hD.part (cx := [(aX, .inr (5, [.ref aM, .ref aY, .int o_19.1, .ref aV])), (aM, .inl (cM, 1024, .inr (.inr (.inr (.inr xm))))), (aY, .inl (cY, 1024, .inl o_19.2)), (aV, .inr (6, [.ref aC, .ref aP, .ref aO, .int vn, .int vd])), (aC, .inl (cC, 512, .inr (.inl vc))), (aP, .inl (cP, 512, .inl vp)), (aO, .inl (cO, 512, .inl vo)), (aT, .inr (2, [.ref aK, .ref aG, .ref aE, .ref aW, .int tn, .int ts])), (aK, .inl (cK, 1024, .inl tk)), (aW, .inl (cW, 1024, .inr (.inl tw)))]) [8, 0, 9, 1, 2, 3, 4, 5, 6, 7] (by decide) rfl) hS (lv_sub hl [3, 4, 1, 0] rfl)
          · rw [if_pos c_14] at hf
            refine lv_iconst (v := (1 : Int32)) hx hb d_X_workOut_44 (by decide) ?_
            refine lv_goto (tgt := 49) hx hb d_X_workOut_45 (by decide) ?_
            refine lv_istore_n (lv' := [(2, .int (1 : Int32)), (4, .int o_5), (0, .ref aX), (1, .ref aT), (3, .int x3)]) hx hb d_X_workOut_49 rfl hl (by decide) rfl (fun ls hl => ?_)
            refine lv_iload_n hx hb d_X_workOut_50 rfl (lv_at hl 0 rfl) ?_
            refine lv_if_eq (tgt := 76) hx hb d_X_workOut_51 (by decide) (fun c_20 => ?_) (fun c_20 => ?_)
            · rw [if_pos c_20] at hf
              refine lv_aload_n hx hb d_X_workOut_76 rfl (lv_at hl 2 rfl) ?_
              refine lv_aload_n hx hb d_X_workOut_77 rfl (lv_at hl 3 rfl) ?_
              refine lv_iload_n hx hb d_X_workOut_78 rfl (lv_at hl 4 rfl) ?_
              obtain ⟨o_21, hM_21, hf⟩ := bd_some hf
              refine cp_v (wr := [(aY, .inl (cY, 1024, .inl xw))]) (va_runV (As := [.ref aT, .int x3]) (rest := []) ⟨hx, hb, hml, hown, hts⟩ (c_X_pushOperand l dC dI aX aM aY aV aC aP aO aT aK aG aE aW cM cC cP cO cK cW cB H.size xn xm vn vd vc vp vo tn ts tk tw ns x3 o_21 hM_21) (cwV 2 hts (gwV wb_344 wb_346 wb_347 wb_158 wb_345) rfl rfl rfl (by decide +kernel) ⟨Nat.le_of_ble_eq_true rfl, Nat.le_of_ble_eq_true rfl⟩) (pr_V (hP.part [0, 1, 3, 4, 5, 6, 7, 8, 9] rfl) (hD.part [0, 1, 3, 4, 5, 6, 7, 8, 9] (by decide) rfl) hK hN [0, 2, 3, 4, 5, 6, 7] rfl (ci := 5) rfl rfl rfl) rfl rfl hl.1 rfl (lv_room (Nat.le_of_ble_eq_true rfl)) d_X_workOut_79 ⟨Nat.zero_le _, Nat.zero_le _⟩) hP hD hS hA [0, 1, 3, 4, 5, 6, 7, 8, 9] [2] rfl rfl (by decide) (by decide) (fun H locs hw hP hD hS => ?_)
              have hP : va_P (dC, dI) vwCl ([(aY, .inl (cY, 1024, .inl xw)), (aX, .inr (5, [.ref aM, .ref aY, .int xn, .ref aV])), (aM, .inl (cM, 1024, .inr (.inr (.inr (.inr xm))))), (aV, .inr (6, [.ref aC, .ref aP, .ref aO, .int o_21.1, .int vd])), (aC, .inl (cC, 512, .inr (.inl o_21.2.1))), (aP, .inl (cP, 512, .inl o_21.2.2.1)), (aO, .inl (cO, 512, .inl o_21.2.2.2)), (aT, .inr (2, [.ref aK, .ref aG, .ref aE, .ref aW, .int tn, .int ts])), (aK, .inl (cK, 1024, .inl tk)), (aW, .inl (cW, 1024, .inr (.inl tw)))] ++ np cB ns) H := hP
              have hD : va_D A ([(aY, .inl (cY, 1024, .inl xw)), (aX, .inr (5, [.ref aM, .ref aY, .int xn, .ref aV])), (aM, .inl (cM, 1024, .inr (.inr (.inr (.inr xm))))), (aV, .inr (6, [.ref aC, .ref aP, .ref aO, .int o_21.1, .int vd])), (aC, .inl (cC, 512, .inr (.inl o_21.2.1))), (aP, .inl (cP, 512, .inl o_21.2.2.1)), (aO, .inl (cO, 512, .inl o_21.2.2.2)), (aT, .inr (2, [.ref aK, .ref aG, .ref aE, .ref aW, .int tn, .int ts])), (aK, .inl (cK, 1024, .inl tk)), (aW, .inl (cW, 1024, .inr (.inl tw)))] ++ np cB ns) := hD
              refine lv_goto (tgt := 121) hx hb d_X_workOut_82 (by decide) ?_
              refine lv_iinc (v := x3 + (1 : Int32)) (lv' := [(3, .int (x3 + (1 : Int32))), (2, .int (1 : Int32)), (4, .int o_5), (0, .ref aX), (1, .ref aT)]) hx hb d_X_workOut_121 hl (k := 4) rfl rfl (by decide) rfl (fun ls hl => ?_)
              refine lv_goto (tgt := 16) hx hb d_X_workOut_124 (by decide) ?_
              exact ih xn xm xw o_21.1 vd o_21.2.1 o_21.2.2.1 o_21.2.2.2 tn tk tw ns (1 : Int32) (x3 + (1 : Int32)) H locs ls hf (hP.part (cx := [(aX, .inr (5, [.ref aM, .ref aY, .int xn, .ref aV])), (aM, .inl (cM, 1024, .inr (.inr (.inr (.inr xm))))), (aY, .inl (cY, 1024, .inl xw)), (aV, .inr (6, [.ref aC, .ref aP, .ref aO, .int o_21.1, .int vd])), (aC, .inl (cC, 512, .inr (.inl o_21.2.1))), (aP, .inl (cP, 512, .inl o_21.2.2.1)), (aO, .inl (cO, 512, .inl o_21.2.2.2)), (aT, .inr (2, [.ref aK, .ref aG, .ref aE, .ref aW, .int tn, .int ts])), (aK, .inl (cK, 1024, .inl tk)), (aW, .inl (cW, 1024, .inr (.inl tw)))]) [1, 2, 0, 3, 4, 5, 6, 7, 8, 9] rfl) (hD.part (cx := [(aX, .inr (5, [.ref aM, .ref aY, .int xn, .ref aV])), (aM, .inl (cM, 1024, .inr (.inr (.inr (.inr xm))))), (aY, .inl (cY, 1024, .inl xw)), (aV, .inr (6, [.ref aC, .ref aP, .ref aO, .int o_21.1, .int vd])), (aC, .inl (cC, 512, .inr (.inl o_21.2.1))), (aP, .inl (cP, 512, .inl o_21.2.2.1)), (aO, .inl (cO, 512, .inl o_21.2.2.2)), (aT, .inr (2, [.ref aK, .ref aG, .ref aE, .ref aW, .int tn, .int ts])), (aK, .inl (cK, 1024, .inl tk)), (aW, .inl (cW, 1024, .inr (.inl tw)))]) [1, 2, 0, 3, 4, 5, 6, 7, 8, 9] (by decide) rfl) hS (lv_sub hl [3, 4, 1, 0] rfl)
            · rw [if_neg c_20] at hf
              refine lv_aload_n hx hb d_X_workOut_54 rfl (lv_at hl 2 rfl) ?_
              refine lv_iload hx hb d_X_workOut_55 (lv_at hl 1 rfl) ?_
              refine lv_bipush (v := (40 : Int32)) hx hb d_X_workOut_57 (by decide) ?_
              refine lv_icmp_ne (tgt := 67) hx hb d_X_workOut_59 (by decide) (fun c_22 => ?_) (fun c_22 => ?_)
              · rw [if_neg c_22] at hf
                refine lv_iload hx hb d_X_workOut_67 (lv_at hl 1 rfl) ?_
                refine lv_ineg hx hb d_X_workOut_69 ?_
                obtain ⟨o_23, hM_23, hf⟩ := bd_some hf
                refine cq_v (wr := [(aM, .inl (cM, 1024, .inr (.inr (.inr (.inr xm))))), (aV, .inr (6, [.ref aC, .ref aP, .ref aO, .int vn, .int vd])), (aC, .inl (cC, 512, .inr (.inl vc))), (aP, .inl (cP, 512, .inl vp)), (aO, .inl (cO, 512, .inl vo)), (aT, .inr (2, [.ref aK, .ref aG, .ref aE, .ref aW, .int tn, .int ts])), (aK, .inl (cK, 1024, .inl tk)), (aW, .inl (cW, 1024, .inr (.inl tw)))]) (va_runV (As := [.int (-o_5)]) (rest := []) ⟨hx, hb, hml, hown, hts⟩ (c_X_letWait l dC dI aX aM aY aV aC aP aO cY H.size xn xw (-o_5) o_23 hM_23) (cwV 1 hts (gwV wb_336 wb_338 wb_339 wb_158 wb_337) rfl rfl rfl (by decide +kernel) ⟨Nat.le_of_ble_eq_true rfl, Nat.le_of_ble_eq_true rfl⟩) (pr_V (hP.sub [0, 2] rfl) (hD.sub [0, 2] (by decide) rfl) hK hN [1] rfl (ci := 5) rfl rfl rfl) rfl rfl hl.1 rfl (lv_room (Nat.le_of_ble_eq_true rfl)) d_X_workOut_70 ⟨Nat.zero_le _, Nat.zero_le _⟩) hP hD hS hA [0, 2] [1, 3, 4, 5, 6, 7, 8, 9] rfl rfl rfl (by decide) (by decide) (fun H locs hw hP hD hS => ?_)
                have hP : va_P (dC, dI) vwCl ([(aM, .inl (cM, 1024, .inr (.inr (.inr (.inr xm))))), (aV, .inr (6, [.ref aC, .ref aP, .ref aO, .int vn, .int vd])), (aC, .inl (cC, 512, .inr (.inl vc))), (aP, .inl (cP, 512, .inl vp)), (aO, .inl (cO, 512, .inl vo)), (aT, .inr (2, [.ref aK, .ref aG, .ref aE, .ref aW, .int tn, .int ts])), (aK, .inl (cK, 1024, .inl tk)), (aW, .inl (cW, 1024, .inr (.inl tw))), (aX, .inr (5, [.ref aM, .ref aY, .int o_23.1, .ref aV])), (aY, .inl (cY, 1024, .inl o_23.2))] ++ np cB ns) H := hP
                have hD : va_D A ([(aM, .inl (cM, 1024, .inr (.inr (.inr (.inr xm))))), (aV, .inr (6, [.ref aC, .ref aP, .ref aO, .int vn, .int vd])), (aC, .inl (cC, 512, .inr (.inl vc))), (aP, .inl (cP, 512, .inl vp)), (aO, .inl (cO, 512, .inl vo)), (aT, .inr (2, [.ref aK, .ref aG, .ref aE, .ref aW, .int tn, .int ts])), (aK, .inl (cK, 1024, .inl tk)), (aW, .inl (cW, 1024, .inr (.inl tw))), (aX, .inr (5, [.ref aM, .ref aY, .int o_23.1, .ref aV])), (aY, .inl (cY, 1024, .inl o_23.2))] ++ np cB ns) := hD
                refine lv_goto (tgt := 121) hx hb d_X_workOut_73 (by decide) ?_
                refine lv_iinc (v := x3 + (1 : Int32)) (lv' := [(3, .int (x3 + (1 : Int32))), (2, .int (1 : Int32)), (4, .int o_5), (0, .ref aX), (1, .ref aT)]) hx hb d_X_workOut_121 hl (k := 4) rfl rfl (by decide) rfl (fun ls hl => ?_)
                refine lv_goto (tgt := 16) hx hb d_X_workOut_124 (by decide) ?_
                exact ih o_23.1 xm o_23.2 vn vd vc vp vo tn tk tw ns (1 : Int32) (x3 + (1 : Int32)) H locs ls hf (hP.part (cx := [(aX, .inr (5, [.ref aM, .ref aY, .int o_23.1, .ref aV])), (aM, .inl (cM, 1024, .inr (.inr (.inr (.inr xm))))), (aY, .inl (cY, 1024, .inl o_23.2)), (aV, .inr (6, [.ref aC, .ref aP, .ref aO, .int vn, .int vd])), (aC, .inl (cC, 512, .inr (.inl vc))), (aP, .inl (cP, 512, .inl vp)), (aO, .inl (cO, 512, .inl vo)), (aT, .inr (2, [.ref aK, .ref aG, .ref aE, .ref aW, .int tn, .int ts])), (aK, .inl (cK, 1024, .inl tk)), (aW, .inl (cW, 1024, .inr (.inl tw)))]) [8, 0, 9, 1, 2, 3, 4, 5, 6, 7] rfl) (hD.part (cx := [(aX, .inr (5, [.ref aM, .ref aY, .int o_23.1, .ref aV])), (aM, .inl (cM, 1024, .inr (.inr (.inr (.inr xm))))), (aY, .inl (cY, 1024, .inl o_23.2)), (aV, .inr (6, [.ref aC, .ref aP, .ref aO, .int vn, .int vd])), (aC, .inl (cC, 512, .inr (.inl vc))), (aP, .inl (cP, 512, .inl vp)), (aO, .inl (cO, 512, .inl vo)), (aT, .inr (2, [.ref aK, .ref aG, .ref aE, .ref aW, .int tn, .int ts])), (aK, .inl (cK, 1024, .inl tk)), (aW, .inl (cW, 1024, .inr (.inl tw)))]) [8, 0, 9, 1, 2, 3, 4, 5, 6, 7] (by decide) rfl) hS (lv_sub hl [3, 4, 1, 0] rfl)
              · rw [if_pos c_22] at hf
                refine lv_iload hx hb d_X_workOut_62 (lv_at hl 1 rfl) ?_
                refine lv_goto (tgt := 70) hx hb d_X_workOut_64 (by decide) ?_
                obtain ⟨o_24, hM_24, hf⟩ := bd_some hf
                refine cq_v (wr := [(aM, .inl (cM, 1024, .inr (.inr (.inr (.inr xm))))), (aV, .inr (6, [.ref aC, .ref aP, .ref aO, .int vn, .int vd])), (aC, .inl (cC, 512, .inr (.inl vc))), (aP, .inl (cP, 512, .inl vp)), (aO, .inl (cO, 512, .inl vo)), (aT, .inr (2, [.ref aK, .ref aG, .ref aE, .ref aW, .int tn, .int ts])), (aK, .inl (cK, 1024, .inl tk)), (aW, .inl (cW, 1024, .inr (.inl tw)))]) (va_runV (As := [.int o_5]) (rest := []) ⟨hx, hb, hml, hown, hts⟩ (c_X_letWait l dC dI aX aM aY aV aC aP aO cY H.size xn xw o_5 o_24 hM_24) (cwV 1 hts (gwV wb_336 wb_338 wb_339 wb_158 wb_337) rfl rfl rfl (by decide +kernel) ⟨Nat.le_of_ble_eq_true rfl, Nat.le_of_ble_eq_true rfl⟩) (pr_V (hP.sub [0, 2] rfl) (hD.sub [0, 2] (by decide) rfl) hK hN [1] rfl (ci := 5) rfl rfl rfl) rfl rfl hl.1 rfl (lv_room (Nat.le_of_ble_eq_true rfl)) d_X_workOut_70 ⟨Nat.zero_le _, Nat.zero_le _⟩) hP hD hS hA [0, 2] [1, 3, 4, 5, 6, 7, 8, 9] rfl rfl rfl (by decide) (by decide) (fun H locs hw hP hD hS => ?_)
                have hP : va_P (dC, dI) vwCl ([(aM, .inl (cM, 1024, .inr (.inr (.inr (.inr xm))))), (aV, .inr (6, [.ref aC, .ref aP, .ref aO, .int vn, .int vd])), (aC, .inl (cC, 512, .inr (.inl vc))), (aP, .inl (cP, 512, .inl vp)), (aO, .inl (cO, 512, .inl vo)), (aT, .inr (2, [.ref aK, .ref aG, .ref aE, .ref aW, .int tn, .int ts])), (aK, .inl (cK, 1024, .inl tk)), (aW, .inl (cW, 1024, .inr (.inl tw))), (aX, .inr (5, [.ref aM, .ref aY, .int o_24.1, .ref aV])), (aY, .inl (cY, 1024, .inl o_24.2))] ++ np cB ns) H := hP
                have hD : va_D A ([(aM, .inl (cM, 1024, .inr (.inr (.inr (.inr xm))))), (aV, .inr (6, [.ref aC, .ref aP, .ref aO, .int vn, .int vd])), (aC, .inl (cC, 512, .inr (.inl vc))), (aP, .inl (cP, 512, .inl vp)), (aO, .inl (cO, 512, .inl vo)), (aT, .inr (2, [.ref aK, .ref aG, .ref aE, .ref aW, .int tn, .int ts])), (aK, .inl (cK, 1024, .inl tk)), (aW, .inl (cW, 1024, .inr (.inl tw))), (aX, .inr (5, [.ref aM, .ref aY, .int o_24.1, .ref aV])), (aY, .inl (cY, 1024, .inl o_24.2))] ++ np cB ns) := hD
                refine lv_goto (tgt := 121) hx hb d_X_workOut_73 (by decide) ?_
                refine lv_iinc (v := x3 + (1 : Int32)) (lv' := [(3, .int (x3 + (1 : Int32))), (2, .int (1 : Int32)), (4, .int o_5), (0, .ref aX), (1, .ref aT)]) hx hb d_X_workOut_121 hl (k := 4) rfl rfl (by decide) rfl (fun ls hl => ?_)
                refine lv_goto (tgt := 16) hx hb d_X_workOut_124 (by decide) ?_
                exact ih o_24.1 xm o_24.2 vn vd vc vp vo tn tk tw ns (1 : Int32) (x3 + (1 : Int32)) H locs ls hf (hP.part (cx := [(aX, .inr (5, [.ref aM, .ref aY, .int o_24.1, .ref aV])), (aM, .inl (cM, 1024, .inr (.inr (.inr (.inr xm))))), (aY, .inl (cY, 1024, .inl o_24.2)), (aV, .inr (6, [.ref aC, .ref aP, .ref aO, .int vn, .int vd])), (aC, .inl (cC, 512, .inr (.inl vc))), (aP, .inl (cP, 512, .inl vp)), (aO, .inl (cO, 512, .inl vo)), (aT, .inr (2, [.ref aK, .ref aG, .ref aE, .ref aW, .int tn, .int ts])), (aK, .inl (cK, 1024, .inl tk)), (aW, .inl (cW, 1024, .inr (.inl tw)))]) [8, 0, 9, 1, 2, 3, 4, 5, 6, 7] rfl) (hD.part (cx := [(aX, .inr (5, [.ref aM, .ref aY, .int o_24.1, .ref aV])), (aM, .inl (cM, 1024, .inr (.inr (.inr (.inr xm))))), (aY, .inl (cY, 1024, .inl o_24.2)), (aV, .inr (6, [.ref aC, .ref aP, .ref aO, .int vn, .int vd])), (aC, .inl (cC, 512, .inr (.inl vc))), (aP, .inl (cP, 512, .inl vp)), (aO, .inl (cO, 512, .inl vo)), (aT, .inr (2, [.ref aK, .ref aG, .ref aE, .ref aW, .int tn, .int ts])), (aK, .inl (cK, 1024, .inl tk)), (aW, .inl (cW, 1024, .inr (.inl tw)))]) [8, 0, 9, 1, 2, 3, 4, 5, 6, 7] (by decide) rfl) hS (lv_sub hl [3, 4, 1, 0] rfl)
  rw [f_X_workOut] at hf
  refine lv_aload_n hx hb d_X_workOut_0 rfl (lv_at hl 0 rfl) ?_
  refine va_get (D := (dC, dI)) (ci := 5) (v := .ref aV) (C := R_X) (T := F_X) (N := 4) hx hb hts i_X hown hK hP 0 rfl rfl 3 (by decide) (hts _ wb_135) (fun _ h9 => h9) rfl d_X_workOut_1 ?_
  obtain ⟨o_1, hM_1, hf⟩ := bd_some hf
  refine cq_v (wr := [(aX, .inr (5, [.ref aM, .ref aY, .int xn, .ref aV])), (aM, .inl (cM, 1024, .inr (.inr (.inr (.inr xm))))), (aY, .inl (cY, 1024, .inl xw)), (aC, .inl (cC, 512, .inr (.inl vc))), (aP, .inl (cP, 512, .inl vp)), (aO, .inl (cO, 512, .inl vo)), (aT, .inr (2, [.ref aK, .ref aG, .ref aE, .ref aW, .int tn, .int ts])), (aK, .inl (cK, 1024, .inl tk)), (aW, .inl (cW, 1024, .inr (.inl tw)))]) (va_runV (As := []) (rest := []) ⟨hx, hb, hml, hown, hts⟩ (c_V_clear l dC dI aV aC aP aO  s.heap.size vn vd  o_1 hM_1) (cwV 0 hts (gwV wb_328 wb_330 wb_331 wb_112 wb_329) rfl rfl rfl (by decide +kernel) ⟨Nat.le_of_ble_eq_true rfl, Nat.le_of_ble_eq_true rfl⟩) (pr_V (hP.sub [3] rfl) (hD.sub [3] (by decide) rfl) hK hN [] rfl (ci := 6) rfl rfl rfl) rfl rfl hl.1 rfl (lv_room (Nat.le_of_ble_eq_true rfl)) d_X_workOut_4 ⟨Nat.zero_le _, Nat.zero_le _⟩) hP hD hS hA [3] [0, 1, 2, 4, 5, 6, 7, 8, 9] rfl rfl rfl (by decide) (by decide) (fun H locs hw hP hD hS => ?_)
  have hP : va_P (dC, dI) vwCl ([(aX, .inr (5, [.ref aM, .ref aY, .int xn, .ref aV])), (aM, .inl (cM, 1024, .inr (.inr (.inr (.inr xm))))), (aY, .inl (cY, 1024, .inl xw)), (aC, .inl (cC, 512, .inr (.inl vc))), (aP, .inl (cP, 512, .inl vp)), (aO, .inl (cO, 512, .inl vo)), (aT, .inr (2, [.ref aK, .ref aG, .ref aE, .ref aW, .int tn, .int ts])), (aK, .inl (cK, 1024, .inl tk)), (aW, .inl (cW, 1024, .inr (.inl tw))), (aV, .inr (6, [.ref aC, .ref aP, .ref aO, .int o_1.1, .int o_1.2]))] ++ np cB ns) H := hP
  have hD : va_D A ([(aX, .inr (5, [.ref aM, .ref aY, .int xn, .ref aV])), (aM, .inl (cM, 1024, .inr (.inr (.inr (.inr xm))))), (aY, .inl (cY, 1024, .inl xw)), (aC, .inl (cC, 512, .inr (.inl vc))), (aP, .inl (cP, 512, .inl vp)), (aO, .inl (cO, 512, .inl vo)), (aT, .inr (2, [.ref aK, .ref aG, .ref aE, .ref aW, .int tn, .int ts])), (aK, .inl (cK, 1024, .inl tk)), (aW, .inl (cW, 1024, .inr (.inl tw))), (aV, .inr (6, [.ref aC, .ref aP, .ref aO, .int o_1.1, .int o_1.2]))] ++ np cB ns) := hD
  refine lv_aload_n hx hb d_X_workOut_7 rfl (lv_at hl 0 rfl) ?_
  refine lv_iconst (v := (0 : Int32)) hx hb d_X_workOut_8 (by decide) ?_
  refine va_put (D := (dC, dI)) (ci := 5) (v := .int (0 : Int32)) (ty := .int) (C := R_X) (T := F_X) (N := 4) hx hb hts i_X ft_X tk_X n_X hown hK hP hD hS 0 rfl rfl 2 (by decide) (hts _ wb_159) (fun _ h9 => h9) rfl (by decide +kernel) rfl rfl (Nat.le_of_ble_eq_true rfl) d_X_workOut_9 (fun H locs hP hD hS => ?_)
  have hP : va_P (dC, dI) vwCl ([(aX, .inr (5, [.ref aM, .ref aY, .int (0 : Int32), .ref aV])), (aM, .inl (cM, 1024, .inr (.inr (.inr (.inr xm))))), (aY, .inl (cY, 1024, .inl xw)), (aC, .inl (cC, 512, .inr (.inl vc))), (aP, .inl (cP, 512, .inl vp)), (aO, .inl (cO, 512, .inl vo)), (aT, .inr (2, [.ref aK, .ref aG, .ref aE, .ref aW, .int tn, .int ts])), (aK, .inl (cK, 1024, .inl tk)), (aW, .inl (cW, 1024, .inr (.inl tw))), (aV, .inr (6, [.ref aC, .ref aP, .ref aO, .int o_1.1, .int o_1.2]))] ++ np cB ns) H := hP
  have hD : va_D A ([(aX, .inr (5, [.ref aM, .ref aY, .int (0 : Int32), .ref aV])), (aM, .inl (cM, 1024, .inr (.inr (.inr (.inr xm))))), (aY, .inl (cY, 1024, .inl xw)), (aC, .inl (cC, 512, .inr (.inl vc))), (aP, .inl (cP, 512, .inl vp)), (aO, .inl (cO, 512, .inl vo)), (aT, .inr (2, [.ref aK, .ref aG, .ref aE, .ref aW, .int tn, .int ts])), (aK, .inl (cK, 1024, .inl tk)), (aW, .inl (cW, 1024, .inr (.inl tw))), (aV, .inr (6, [.ref aC, .ref aP, .ref aO, .int o_1.1, .int o_1.2]))] ++ np cB ns) := hD
  refine lv_iconst (v := (1 : Int32)) hx hb d_X_workOut_12 (by decide) ?_
  refine lv_istore_n (lv' := [(2, .int (1 : Int32)), (0, .ref aX), (1, .ref aT)]) hx hb d_X_workOut_13 rfl hl (by decide) rfl (fun ls hl => ?_)
  refine lv_iconst (v := (0 : Int32)) hx hb d_X_workOut_14 (by decide) ?_
  refine lv_istore_n (lv' := [(3, .int (0 : Int32)), (2, .int (1 : Int32)), (0, .ref aX), (1, .ref aT)]) hx hb d_X_workOut_15 rfl hl (by decide) rfl (fun ls hl => ?_)
  exact loop_16 FU (0 : Int32) xm xw o_1.1 o_1.2 vc vp vo tn tk tw ns (1 : Int32) (0 : Int32) H locs ls hf (hP.part (cx := [(aX, .inr (5, [.ref aM, .ref aY, .int (0 : Int32), .ref aV])), (aM, .inl (cM, 1024, .inr (.inr (.inr (.inr xm))))), (aY, .inl (cY, 1024, .inl xw)), (aV, .inr (6, [.ref aC, .ref aP, .ref aO, .int o_1.1, .int o_1.2])), (aC, .inl (cC, 512, .inr (.inl vc))), (aP, .inl (cP, 512, .inl vp)), (aO, .inl (cO, 512, .inl vo)), (aT, .inr (2, [.ref aK, .ref aG, .ref aE, .ref aW, .int tn, .int ts])), (aK, .inl (cK, 1024, .inl tk)), (aW, .inl (cW, 1024, .inr (.inl tw)))]) [0, 1, 2, 9, 3, 4, 5, 6, 7, 8] rfl) (hD.part (cx := [(aX, .inr (5, [.ref aM, .ref aY, .int (0 : Int32), .ref aV])), (aM, .inl (cM, 1024, .inr (.inr (.inr (.inr xm))))), (aY, .inl (cY, 1024, .inl xw)), (aV, .inr (6, [.ref aC, .ref aP, .ref aO, .int o_1.1, .int o_1.2])), (aC, .inl (cC, 512, .inr (.inl vc))), (aP, .inl (cP, 512, .inl vp)), (aO, .inl (cO, 512, .inl vo)), (aT, .inr (2, [.ref aK, .ref aG, .ref aE, .ref aW, .int tn, .int ts])), (aK, .inl (cK, 1024, .inl tk)), (aW, .inl (cW, 1024, .inr (.inl tw)))]) [0, 1, 2, 9, 3, 4, 5, 6, 7, 8] (by decide) rfl) hS (lv_sub hl [2, 3, 1, 0] rfl)

def f_X_lookUpNames_l3 : Nat → (Nat → Option Nat) → Int32 → (Nat → Int32) → Int32 → (Nat → Int32) → (Nat → Int32) → (Nat → Int32) → Int32 → (Nat → Option Nat) → (List NmR) → Int32 → Option ((Nat → Option Nat))
  | 0, _, _, _, _, _, _, _, _, _, _, _ => none
  | n + 1, xm, ln, lb, tn, tk, tb, te, kn, kq, ns, x4 => (f_T_size tn).bind (fun o_1 => if o_1 ≤ x4 then some (xm) else if (1024 : Int32) ≤ x4 then some (xm) else (f_T_kindOf tn tk x4).bind (fun o_4 => if o_4 = (1 : Int32) then (f_T_beginOf tn tb x4).bind (fun o_6 => (f_T_endOf tn te x4).bind (fun o_7 => (f_K_find kn kq ln lb ns o_6 o_7).bind (fun o_8 => oc o_8 (gi x4 1024 (f_X_lookUpNames_l3 n (va_up xm x4.toNatClampNeg none) ln lb tn tk tb te kn kq ns (x4 + (1 : Int32)))) (fun z_9 => (nsg ns z_9).bind (fun r_10 => gi x4 1024 (f_X_lookUpNames_l3 n (va_up xm x4.toNatClampNeg (some z_9)) ln lb tn tk tb te kn kq ns (x4 + (1 : Int32)))))))) else gi x4 1024 (f_X_lookUpNames_l3 n (va_up xm x4.toNatClampNeg none) ln lb tn tk tb te kn kq ns (x4 + (1 : Int32)))))
def f_X_lookUpNames (xm : Nat → Option Nat) (ln : Int32) (lb : Nat → Int32) (tn : Int32) (tk : Nat → Int32) (tb : Nat → Int32) (te : Nat → Int32) (kn : Int32) (kq : Nat → Option Nat) (ns : List NmR) : Option ((Nat → Option Nat)) := f_X_lookUpNames_l3 FU xm ln lb tn tk tb te kn kq ns (0 : Int32)
set_option maxHeartbeats 4000000 in
set_option maxRecDepth 100000 in
theorem c_X_lookUpNames (l : Launch) (dC : Nat → ClassId) (dI : Nat → Nat → Nat) (aX aM aY aV aC aP aO aL aB aT aK aG aE aW aN aQ : Nat) (cM cB cK cG cE cQ : ClassId) (sz : Nat) (xn : Int32) (xm : Nat → Option Nat) (ln : Int32) (lb : Nat → Int32) (tn : Int32) (ts : Int32) (tk : Nat → Int32) (tb : Nat → Int32) (te : Nat → Int32) (kn : Int32) (kp : Int32) (kq : Nat → Option Nat) (ns : List NmR) (o : (Nat → Option Nat)) (hf : f_X_lookUpNames xm ln lb tn tk tb te kn kq ns = some o) : Met l y_X_lookUpNames (w_X_lookUpNames) ({ frames := 3, cells := 0, slots := 0, locals := 70 }) (va_Pc [.ref aX, .ref aL, .ref aT, .ref aN] (fun U => U.heap.size = sz ∧ va_P (dC, dI) vwCl ([(aX, .inr (5, [.ref aM, .ref aY, .int xn, .ref aV])), (aM, .inl (cM, 1024, .inr (.inr (.inr (.inr xm))))), (aL, .inr (1, [.ref aB, .int ln])), (aB, .inl (cB, 1024, .inl lb)), (aT, .inr (2, [.ref aK, .ref aG, .ref aE, .ref aW, .int tn, .int ts])), (aK, .inl (cK, 1024, .inl tk)), (aG, .inl (cG, 1024, .inl tb)), (aE, .inl (cE, 1024, .inl te)), (aN, .inr (4, [.ref aQ, .int kn, .int kp])), (aQ, .inl (cQ, 256, .inr (.inr (.inr (.inr kq)))))] ++ np cB ns) U.heap ∧ va_K (dC, dI) vwCl [(cM, (.object "ExpressionReader$Name")), (cB, .byte), (cK, .byte), (cG, .int), (cE, .int), (cQ, (.object "ExpressionReader$Name"))] U ∧ va_D (fun _ => True) ([(aX, .inr (5, [.ref aM, .ref aY, .int xn, .ref aV])), (aM, .inl (cM, 1024, .inr (.inr (.inr (.inr xm))))), (aL, .inr (1, [.ref aB, .int ln])), (aB, .inl (cB, 1024, .inl lb)), (aT, .inr (2, [.ref aK, .ref aG, .ref aE, .ref aW, .int tn, .int ts])), (aK, .inl (cK, 1024, .inl tk)), (aG, .inl (cG, 1024, .inl tb)), (aE, .inl (cE, 1024, .inl te)), (aN, .inr (4, [.ref aQ, .int kn, .int kp])), (aQ, .inl (cQ, 256, .inr (.inr (.inr (.inr kq)))))] ++ np cB ns) ∧ NW U)) (va_Qv (fun (_ : Unit) => True) (fun _ t => va_P (dC, dI) vwCl ([(aX, .inr (5, [.ref aM, .ref aY, .int xn, .ref aV])), (aM, .inl (cM, 1024, .inr (.inr (.inr (.inr o))))), (aL, .inr (1, [.ref aB, .int ln])), (aB, .inl (cB, 1024, .inl lb)), (aT, .inr (2, [.ref aK, .ref aG, .ref aE, .ref aW, .int tn, .int ts])), (aK, .inl (cK, 1024, .inl tk)), (aG, .inl (cG, 1024, .inl tb)), (aE, .inl (cE, 1024, .inl te)), (aN, .inr (4, [.ref aQ, .int kn, .int kp])), (aQ, .inl (cQ, 256, .inr (.inr (.inr (.inr kq)))))] ++ np cB ns) t.heap ∧ va_K (dC, dI) vwCl [(cM, (.object "ExpressionReader$Name")), (cB, .byte), (cK, .byte), (cG, .int), (cE, .int), (cQ, (.object "ExpressionReader$Name"))] t ∧ va_D (va_A ([(aX, .inr (5, [.ref aM, .ref aY, .int xn, .ref aV])), (aM, .inl (cM, 1024, .inr (.inr (.inr (.inr xm))))), (aL, .inr (1, [.ref aB, .int ln])), (aB, .inl (cB, 1024, .inl lb)), (aT, .inr (2, [.ref aK, .ref aG, .ref aE, .ref aW, .int tn, .int ts])), (aK, .inl (cK, 1024, .inl tk)), (aG, .inl (cG, 1024, .inl tb)), (aE, .inl (cE, 1024, .inl te)), (aN, .inr (4, [.ref aQ, .int kn, .int kp])), (aQ, .inl (cQ, 256, .inr (.inr (.inr (.inr kq)))))] ++ np cB ns) sz) ([(aX, .inr (5, [.ref aM, .ref aY, .int xn, .ref aV])), (aM, .inl (cM, 1024, .inr (.inr (.inr (.inr o))))), (aL, .inr (1, [.ref aB, .int ln])), (aB, .inl (cB, 1024, .inl lb)), (aT, .inr (2, [.ref aK, .ref aG, .ref aE, .ref aW, .int tn, .int ts])), (aK, .inl (cK, 1024, .inl tk)), (aG, .inl (cG, 1024, .inl tb)), (aE, .inl (cE, 1024, .inl te)), (aN, .inr (4, [.ref aQ, .int kn, .int kp])), (aQ, .inl (cQ, 256, .inr (.inr (.inr (.inr kq)))))] ++ np cB ns)) (va_A ([(aX, .inr (5, [.ref aM, .ref aY, .int xn, .ref aV])), (aM, .inl (cM, 1024, .inr (.inr (.inr (.inr xm))))), (aL, .inr (1, [.ref aB, .int ln])), (aB, .inl (cB, 1024, .inl lb)), (aT, .inr (2, [.ref aK, .ref aG, .ref aE, .ref aW, .int tn, .int ts])), (aK, .inl (cK, 1024, .inl tk)), (aG, .inl (cG, 1024, .inl tb)), (aE, .inl (cE, 1024, .inl te)), (aN, .inr (4, [.ref aQ, .int kn, .int kp])), (aQ, .inl (cQ, 256, .inr (.inr (.inr (.inr kq)))))] ++ np cB ns) sz)) 0 0 (va_A ([(aX, .inr (5, [.ref aM, .ref aY, .int xn, .ref aV])), (aM, .inl (cM, 1024, .inr (.inr (.inr (.inr xm))))), (aL, .inr (1, [.ref aB, .int ln])), (aB, .inl (cB, 1024, .inl lb)), (aT, .inr (2, [.ref aK, .ref aG, .ref aE, .ref aW, .int tn, .int ts])), (aK, .inl (cK, 1024, .inl tk)), (aG, .inl (cG, 1024, .inl tb)), (aE, .inl (cE, 1024, .inl te)), (aN, .inr (4, [.ref aQ, .int kn, .int kp])), (aQ, .inl (cQ, 256, .inr (.inr (.inr (.inr kq)))))] ++ np cB ns) sz) := by
  refine Met.ofW (cc := b_X_lookUpNames) (maxL := 5) (ret := none) (by decide) rfl ?_
  intro p e s m args below meth c s₁ B hml hv
  obtain ⟨rfl, hsz, hP, hK, hD0, hN⟩ := hv
  have hx := B.exec
  have hb := B.bytes
  have hr := B.returns
  have hts : ∀ w ∈ WB, w.before _ s = true := fun w h => atoms_spec (ws := w_X_lookUpNames) B.pre w (List.mem_cons_of_mem _ h)
  have hown : s.vm.findClass R_X = some m.cls := findClass_of_methodNamed B.named
  have hlocks := B.notSynchronized
  subst hsz
  have hD := hD0.self (sz := s.heap.size)
  generalize hAe : va_A ([(aX, .inr (5, [.ref aM, .ref aY, .int xn, .ref aV])), (aM, .inl (cM, 1024, .inr (.inr (.inr (.inr xm))))), (aL, .inr (1, [.ref aB, .int ln])), (aB, .inl (cB, 1024, .inl lb)), (aT, .inr (2, [.ref aK, .ref aG, .ref aE, .ref aW, .int tn, .int ts])), (aK, .inl (cK, 1024, .inl tk)), (aG, .inl (cG, 1024, .inl tb)), (aE, .inl (cE, 1024, .inl te)), (aN, .inr (4, [.ref aQ, .int kn, .int kp])), (aQ, .inl (cQ, 256, .inr (.inr (.inr (.inr kq)))))] ++ np cB ns) s.heap.size = A at hD ⊢
  have hA : ∀ q : Nat, s.heap.size ≤ q → A q := fun q h => by rw [← hAe]; exact Or.inr h
  have hS : va_S A s.heap s.heap [] := va_S.rf
  have hP : va_P (dC, dI) vwCl ([(aX, .inr (5, [.ref aM, .ref aY, .int xn, .ref aV])), (aM, .inl (cM, 1024, .inr (.inr (.inr (.inr xm))))), (aL, .inr (1, [.ref aB, .int ln])), (aB, .inl (cB, 1024, .inl lb)), (aT, .inr (2, [.ref aK, .ref aG, .ref aE, .ref aW, .int tn, .int ts])), (aK, .inl (cK, 1024, .inl tk)), (aG, .inl (cG, 1024, .inl tb)), (aE, .inl (cE, 1024, .inl te)), (aN, .inr (4, [.ref aQ, .int kn, .int kp])), (aQ, .inl (cQ, 256, .inr (.inr (.inr (.inr kq)))))] ++ np cB ns) s.heap := hP
  have hl := lv_entry [.ref aX, .ref aL, .ref aT, .ref aN] (n := 5) (Nat.le_of_ble_eq_true rfl)
  rw [lg_entry_eq]
  generalize (lg_sl [.ref aX, .ref aL, .ref aT, .ref aN] ++ List.replicate (5 - (lg_sl [.ref aX, .ref aL, .ref aT, .ref aN]).length) Slot.unset).toArray = ls at hl ⊢
  have hl : lv_has ls 5 [(0, .ref aX), (1, .ref aL), (2, .ref aT), (3, .ref aN)] := hl
  have loop_3 : ∀ (n : Nat) (xm : Nat → Option Nat) (ln : Int32) (lb : Nat → Int32) (tn : Int32) (tk : Nat → Int32) (tb : Nat → Int32) (te : Nat → Int32) (kn : Int32) (kq : Nat → Option Nat) (ns : List NmR) (x4 : Int32) (H : Heap) (locs : List Loc) (ls : Array Slot), f_X_lookUpNames_l3 n xm ln lb tn tk tb te kn kq ns x4 = some o → va_P (dC, dI) vwCl ([(aX, .inr (5, [.ref aM, .ref aY, .int xn, .ref aV])), (aM, .inl (cM, 1024, .inr (.inr (.inr (.inr xm))))), (aL, .inr (1, [.ref aB, .int ln])), (aB, .inl (cB, 1024, .inl lb)), (aT, .inr (2, [.ref aK, .ref aG, .ref aE, .ref aW, .int tn, .int ts])), (aK, .inl (cK, 1024, .inl tk)), (aG, .inl (cG, 1024, .inl tb)), (aE, .inl (cE, 1024, .inl te)), (aN, .inr (4, [.ref aQ, .int kn, .int kp])), (aQ, .inl (cQ, 256, .inr (.inr (.inr (.inr kq)))))] ++ np cB ns) H → va_D A ([(aX, .inr (5, [.ref aM, .ref aY, .int xn, .ref aV])), (aM, .inl (cM, 1024, .inr (.inr (.inr (.inr xm))))), (aL, .inr (1, [.ref aB, .int ln])), (aB, .inl (cB, 1024, .inl lb)), (aT, .inr (2, [.ref aK, .ref aG, .ref aE, .ref aW, .int tn, .int ts])), (aK, .inl (cK, 1024, .inl tk)), (aG, .inl (cG, 1024, .inl tb)), (aE, .inl (cE, 1024, .inl te)), (aN, .inr (4, [.ref aQ, .int kn, .int kp])), (aQ, .inl (cQ, 256, .inr (.inr (.inr (.inr kq)))))] ++ np cB ns) → va_S A s.heap H locs → lv_has ls 5 [(0, .ref aX), (1, .ref aL), (2, .ref aT), (3, .ref aN), (4, .int x4)] → W p l e (headSpec (w_X_lookUpNames) ({ frames := 3, cells := 0, slots := 0, locals := 70 })).room s m [.ref aX, .ref aL, .ref aT, .ref aN].toArray below meth c H locs 0 0 (MQ below (va_Qv (fun (_ : Unit) => True) (fun _ t => va_P (dC, dI) vwCl ([(aX, .inr (5, [.ref aM, .ref aY, .int xn, .ref aV])), (aM, .inl (cM, 1024, .inr (.inr (.inr (.inr o))))), (aL, .inr (1, [.ref aB, .int ln])), (aB, .inl (cB, 1024, .inl lb)), (aT, .inr (2, [.ref aK, .ref aG, .ref aE, .ref aW, .int tn, .int ts])), (aK, .inl (cK, 1024, .inl tk)), (aG, .inl (cG, 1024, .inl tb)), (aE, .inl (cE, 1024, .inl te)), (aN, .inr (4, [.ref aQ, .int kn, .int kp])), (aQ, .inl (cQ, 256, .inr (.inr (.inr (.inr kq)))))] ++ np cB ns) t.heap ∧ va_K (dC, dI) vwCl [(cM, (.object "ExpressionReader$Name")), (cB, .byte), (cK, .byte), (cG, .int), (cE, .int), (cQ, (.object "ExpressionReader$Name"))] t ∧ va_D A ([(aX, .inr (5, [.ref aM, .ref aY, .int xn, .ref aV])), (aM, .inl (cM, 1024, .inr (.inr (.inr (.inr o))))), (aL, .inr (1, [.ref aB, .int ln])), (aB, .inl (cB, 1024, .inl lb)), (aT, .inr (2, [.ref aK, .ref aG, .ref aE, .ref aW, .int tn, .int ts])), (aK, .inl (cK, 1024, .inl tk)), (aG, .inl (cG, 1024, .inl tb)), (aE, .inl (cE, 1024, .inl te)), (aN, .inr (4, [.ref aQ, .int kn, .int kp])), (aQ, .inl (cQ, 256, .inr (.inr (.inr (.inr kq)))))] ++ np cB ns)) A) [.ref aX, .ref aL, .ref aT, .ref aN].toArray s 0 0 A) (F0 m 3 ls []) := by
    intro n
    induction n with
    | zero => intro xm ln lb tn tk tb te kn kq ns x4 H locs ls hf; exact absurd hf (by simp [f_X_lookUpNames_l3])
    | succ n ih =>
      intro xm ln lb tn tk tb te kn kq ns x4 H locs ls hf hP hD hS hl
      rw [f_X_lookUpNames_l3] at hf
      refine lv_iload hx hb d_X_lookUpNames_3 (lv_at hl 4 rfl) ?_
      refine lv_aload_n hx hb d_X_lookUpNames_5 rfl (lv_at hl 2 rfl) ?_
      obtain ⟨o_1, hM_1, hf⟩ := bd_some hf
      refine cr_i (va_runV (As := []) (rest := [.int x4]) ⟨hx, hb, hml, hown, hts⟩ (c_T_size l dC dI aT aK aG aE aW  H.size tn ts  o_1 hM_1) (cwV 0 hts (gwV wb_149 wb_151 wb_152 wb_32 wb_150) rfl rfl rfl (by decide +kernel) ⟨Nat.le_of_ble_eq_true rfl, Nat.le_of_ble_eq_true rfl⟩) (pr_V (hP.sub [4] rfl) (hD.sub [4] (by decide) rfl) hK hN [] rfl (ci := 2) rfl rfl rfl) rfl rfl hl.1 rfl (lv_room (Nat.le_of_ble_eq_true rfl)) d_X_lookUpNames_6 ⟨Nat.zero_le _, Nat.zero_le _⟩) hP hD hS hA (in_of [4] rfl) (fun r_1 H locs hw hP hS => ?_)
      subst r_1
      refine lv_icmp_ge (tgt := 66) hx hb d_X_lookUpNames_9 (by decide) (fun c_2 => ?_) (fun c_2 => ?_)
      · rw [if_pos c_2] at hf
        have ho := Option.some.inj hf
        subst o
        have hP9 := hP.part (cx := [(aX, .inr (5, [.ref aM, .ref aY, .int xn, .ref aV])), (aM, .inl (cM, 1024, .inr (.inr (.inr (.inr xm))))), (aL, .inr (1, [.ref aB, .int ln])), (aB, .inl (cB, 1024, .inl lb)), (aT, .inr (2, [.ref aK, .ref aG, .ref aE, .ref aW, .int tn, .int ts])), (aK, .inl (cK, 1024, .inl tk)), (aG, .inl (cG, 1024, .inl tb)), (aE, .inl (cE, 1024, .inl te)), (aN, .inr (4, [.ref aQ, .int kn, .int kp])), (aQ, .inl (cQ, 256, .inr (.inr (.inr (.inr kq)))))]) [0, 1, 2, 3, 4, 5, 6, 7, 8, 9] rfl
        have hD9 := hD.part (cx := [(aX, .inr (5, [.ref aM, .ref aY, .int xn, .ref aV])), (aM, .inl (cM, 1024, .inr (.inr (.inr (.inr xm))))), (aL, .inr (1, [.ref aB, .int ln])), (aB, .inl (cB, 1024, .inl lb)), (aT, .inr (2, [.ref aK, .ref aG, .ref aE, .ref aW, .int tn, .int ts])), (aK, .inl (cK, 1024, .inl tk)), (aG, .inl (cG, 1024, .inl tb)), (aE, .inl (cE, 1024, .inl te)), (aN, .inr (4, [.ref aQ, .int kn, .int kp])), (aQ, .inl (cQ, 256, .inr (.inr (.inr (.inr kq)))))]) [0, 1, 2, 3, 4, 5, 6, 7, 8, 9] (by decide) rfl
        exact W.vret hx hb hr (fun t ht hW => ⟨⟨(), rfl, trivial, by rw [ht]; exact hP9, va_K.moved hW.alike hK, hD9⟩, hS.F ht⟩) hS.2.2 d_X_lookUpNames_66
      · rw [if_neg c_2] at hf
        refine lv_iload hx hb d_X_lookUpNames_12 (lv_at hl 4 rfl) ?_
        refine lv_aload_n hx hb d_X_lookUpNames_14 rfl (lv_at hl 0 rfl) ?_
        refine va_get (D := (dC, dI)) (ci := 5) (v := .ref aM) (C := R_X) (T := F_X) (N := 4) hx hb hts i_X hown hK hP 0 rfl rfl 0 (by decide) (hts _ wb_148) (fun _ h9 => h9) rfl d_X_lookUpNames_15 ?_
        refine va_alen (v := (1024 : Int32)) hx hb hK hP 1 0 rfl rfl rfl d_X_lookUpNames_18 ?_
        refine lv_icmp_ge (tgt := 66) hx hb d_X_lookUpNames_19 (by decide) (fun c_3 => ?_) (fun c_3 => ?_)
        · rw [if_pos c_3] at hf
          have ho := Option.some.inj hf
          subst o
          have hP9 := hP.part (cx := [(aX, .inr (5, [.ref aM, .ref aY, .int xn, .ref aV])), (aM, .inl (cM, 1024, .inr (.inr (.inr (.inr xm))))), (aL, .inr (1, [.ref aB, .int ln])), (aB, .inl (cB, 1024, .inl lb)), (aT, .inr (2, [.ref aK, .ref aG, .ref aE, .ref aW, .int tn, .int ts])), (aK, .inl (cK, 1024, .inl tk)), (aG, .inl (cG, 1024, .inl tb)), (aE, .inl (cE, 1024, .inl te)), (aN, .inr (4, [.ref aQ, .int kn, .int kp])), (aQ, .inl (cQ, 256, .inr (.inr (.inr (.inr kq)))))]) [0, 1, 2, 3, 4, 5, 6, 7, 8, 9] rfl
          have hD9 := hD.part (cx := [(aX, .inr (5, [.ref aM, .ref aY, .int xn, .ref aV])), (aM, .inl (cM, 1024, .inr (.inr (.inr (.inr xm))))), (aL, .inr (1, [.ref aB, .int ln])), (aB, .inl (cB, 1024, .inl lb)), (aT, .inr (2, [.ref aK, .ref aG, .ref aE, .ref aW, .int tn, .int ts])), (aK, .inl (cK, 1024, .inl tk)), (aG, .inl (cG, 1024, .inl tb)), (aE, .inl (cE, 1024, .inl te)), (aN, .inr (4, [.ref aQ, .int kn, .int kp])), (aQ, .inl (cQ, 256, .inr (.inr (.inr (.inr kq)))))]) [0, 1, 2, 3, 4, 5, 6, 7, 8, 9] (by decide) rfl
          exact W.vret hx hb hr (fun t ht hW => ⟨⟨(), rfl, trivial, by rw [ht]; exact hP9, va_K.moved hW.alike hK, hD9⟩, hS.F ht⟩) hS.2.2 d_X_lookUpNames_66
        · rw [if_neg c_3] at hf
          refine lv_aload_n hx hb d_X_lookUpNames_22 rfl (lv_at hl 0 rfl) ?_
          refine va_get (D := (dC, dI)) (ci := 5) (v := .ref aM) (C := R_X) (T := F_X) (N := 4) hx hb hts i_X hown hK hP 0 rfl rfl 0 (by decide) (hts _ wb_148) (fun _ h9 => h9) rfl d_X_lookUpNames_23 ?_
          refine lv_iload hx hb d_X_lookUpNames_26 (lv_at hl 4 rfl) ?_
          refine lv_aload_n hx hb d_X_lookUpNames_28 rfl (lv_at hl 2 rfl) ?_
          refine lv_iload hx hb d_X_lookUpNames_29 (lv_at hl 4 rfl) ?_
          obtain ⟨o_4, hM_4, hf⟩ := bd_some hf
          refine cr_i (va_runV (As := [.int x4]) (rest := [.int x4, .ref aM]) ⟨hx, hb, hml, hown, hts⟩ (c_T_kindOf l dC dI aT aK aG aE aW cK H.size tn ts tk x4 o_4 hM_4) (cwV 1 hts (gwV wb_153 wb_40 wb_41 wb_32 wb_39) rfl rfl rfl (by decide +kernel) ⟨Nat.le_of_ble_eq_true rfl, Nat.le_of_ble_eq_true rfl⟩) (pr_V (hP.sub [4, 5] rfl) (hD.sub [4, 5] (by decide) rfl) hK hN [2] rfl (ci := 2) rfl rfl rfl) rfl rfl hl.1 rfl (lv_room (Nat.le_of_ble_eq_true rfl)) d_X_lookUpNames_31 ⟨Nat.zero_le _, Nat.zero_le _⟩) hP hD hS hA (in_of [4, 5] rfl) (fun r_4 H locs hw hP hS => ?_)
          subst r_4
          refine lv_iconst (v := (1 : Int32)) hx hb d_X_lookUpNames_34 (by decide) ?_
          refine lv_icmp_ne (tgt := 58) hx hb d_X_lookUpNames_35 (by decide) (fun c_5 => ?_) (fun c_5 => ?_)
          · rw [if_neg c_5] at hf
            refine lv_null hx hb d_X_lookUpNames_58 ?_
            obtain ⟨hin, hf⟩ := gi_some hf
            refine va_astqN hx hb hK hP hD hS 1 0 rfl rfl hin d_X_lookUpNames_59 (fun H locs hP hD hS => ?_)
            have hP : va_P (dC, dI) vwCl ([(aX, .inr (5, [.ref aM, .ref aY, .int xn, .ref aV])), (aM, .inl (cM, 1024, .inr (.inr (.inr (.inr (va_up xm x4.toNatClampNeg none)))))), (aL, .inr (1, [.ref aB, .int ln])), (aB, .inl (cB, 1024, .inl lb)), (aT, .inr (2, [.ref aK, .ref aG, .ref aE, .ref aW, .int tn, .int ts])), (aK, .inl (cK, 1024, .inl tk)), (aG, .inl (cG, 1024, .inl tb)), (aE, .inl (cE, 1024, .inl te)), (aN, .inr (4, [.ref aQ, .int kn, .int kp])), (aQ, .inl (cQ, 256, .inr (.inr (.inr (.inr kq)))))] ++ np cB ns) H := hP
            have hD : va_D A ([(aX, .inr (5, [.ref aM, .ref aY, .int xn, .ref aV])), (aM, .inl (cM, 1024, .inr (.inr (.inr (.inr (va_up xm x4.toNatClampNeg none)))))), (aL, .inr (1, [.ref aB, .int ln])), (aB, .inl (cB, 1024, .inl lb)), (aT, .inr (2, [.ref aK, .ref aG, .ref aE, .ref aW, .int tn, .int ts])), (aK, .inl (cK, 1024, .inl tk)), (aG, .inl (cG, 1024, .inl tb)), (aE, .inl (cE, 1024, .inl te)), (aN, .inr (4, [.ref aQ, .int kn, .int kp])), (aQ, .inl (cQ, 256, .inr (.inr (.inr (.inr kq)))))] ++ np cB ns) := hD
            refine lv_iinc (v := x4 + (1 : Int32)) (lv' := [(4, .int (x4 + (1 : Int32))), (0, .ref aX), (1, .ref aL), (2, .ref aT), (3, .ref aN)]) hx hb d_X_lookUpNames_60 hl (k := 4) rfl rfl (by decide) rfl (fun ls hl => ?_)
            refine lv_goto (tgt := 3) hx hb d_X_lookUpNames_63 (by decide) ?_
            exact ih (va_up xm x4.toNatClampNeg none) ln lb tn tk tb te kn kq ns (x4 + (1 : Int32)) H locs ls hf (hP.part (cx := [(aX, .inr (5, [.ref aM, .ref aY, .int xn, .ref aV])), (aM, .inl (cM, 1024, .inr (.inr (.inr (.inr (va_up xm x4.toNatClampNeg none)))))), (aL, .inr (1, [.ref aB, .int ln])), (aB, .inl (cB, 1024, .inl lb)), (aT, .inr (2, [.ref aK, .ref aG, .ref aE, .ref aW, .int tn, .int ts])), (aK, .inl (cK, 1024, .inl tk)), (aG, .inl (cG, 1024, .inl tb)), (aE, .inl (cE, 1024, .inl te)), (aN, .inr (4, [.ref aQ, .int kn, .int kp])), (aQ, .inl (cQ, 256, .inr (.inr (.inr (.inr kq)))))]) [0, 1, 2, 3, 4, 5, 6, 7, 8, 9] rfl) (hD.part (cx := [(aX, .inr (5, [.ref aM, .ref aY, .int xn, .ref aV])), (aM, .inl (cM, 1024, .inr (.inr (.inr (.inr (va_up xm x4.toNatClampNeg none)))))), (aL, .inr (1, [.ref aB, .int ln])), (aB, .inl (cB, 1024, .inl lb)), (aT, .inr (2, [.ref aK, .ref aG, .ref aE, .ref aW, .int tn, .int ts])), (aK, .inl (cK, 1024, .inl tk)), (aG, .inl (cG, 1024, .inl tb)), (aE, .inl (cE, 1024, .inl te)), (aN, .inr (4, [.ref aQ, .int kn, .int kp])), (aQ, .inl (cQ, 256, .inr (.inr (.inr (.inr kq)))))]) [0, 1, 2, 3, 4, 5, 6, 7, 8, 9] (by decide) rfl) hS (lv_sub hl [1, 2, 3, 4, 0] rfl)
          · rw [if_pos c_5] at hf
            refine lv_aload_n hx hb d_X_lookUpNames_38 rfl (lv_at hl 3 rfl) ?_
            refine lv_aload_n hx hb d_X_lookUpNames_39 rfl (lv_at hl 1 rfl) ?_
            refine lv_aload_n hx hb d_X_lookUpNames_40 rfl (lv_at hl 2 rfl) ?_
            refine lv_iload hx hb d_X_lookUpNames_41 (lv_at hl 4 rfl) ?_
            obtain ⟨o_6, hM_6, hf⟩ := bd_some hf
            refine cr_i (va_runV (As := [.int x4]) (rest := [.ref aL, .ref aN, .int x4, .ref aM]) ⟨hx, hb, hml, hown, hts⟩ (c_T_beginOf l dC dI aT aK aG aE aW cG H.size tn ts tb x4 o_6 hM_6) (cwV 1 hts (gwV wb_348 wb_350 wb_351 wb_32 wb_349) rfl rfl rfl (by decide +kernel) ⟨Nat.le_of_ble_eq_true rfl, Nat.le_of_ble_eq_true rfl⟩) (pr_V (hP.sub [4, 6] rfl) (hD.sub [4, 6] (by decide) rfl) hK hN [3] rfl (ci := 2) rfl rfl rfl) rfl rfl hl.1 rfl (lv_room (Nat.le_of_ble_eq_true rfl)) d_X_lookUpNames_43 ⟨Nat.zero_le _, Nat.zero_le _⟩) hP hD hS hA (in_of [4, 6] rfl) (fun r_6 H locs hw hP hS => ?_)
            subst r_6
            refine lv_aload_n hx hb d_X_lookUpNames_46 rfl (lv_at hl 2 rfl) ?_
            refine lv_iload hx hb d_X_lookUpNames_47 (lv_at hl 4 rfl) ?_
            obtain ⟨o_7, hM_7, hf⟩ := bd_some hf
            refine cr_i (va_runV (As := [.int x4]) (rest := [.int o_6, .ref aL, .ref aN, .int x4, .ref aM]) ⟨hx, hb, hml, hown, hts⟩ (c_T_endOf l dC dI aT aK aG aE aW cE H.size tn ts te x4 o_7 hM_7) (cwV 1 hts (gwV wb_352 wb_354 wb_355 wb_32 wb_353) rfl rfl rfl (by decide +kernel) ⟨Nat.le_of_ble_eq_true rfl, Nat.le_of_ble_eq_true rfl⟩) (pr_V (hP.sub [4, 7] rfl) (hD.sub [4, 7] (by decide) rfl) hK hN [4] rfl (ci := 2) rfl rfl rfl) rfl rfl hl.1 rfl (lv_room (Nat.le_of_ble_eq_true rfl)) d_X_lookUpNames_49 ⟨Nat.zero_le _, Nat.zero_le _⟩) hP hD hS hA (in_of [4, 7] rfl) (fun r_7 H locs hw hP hS => ?_)
            subst r_7
            obtain ⟨o_8, hM_8, hf⟩ := bd_some hf
            refine cr_q (va_runV (As := [.ref aL, .int o_6, .int o_7]) (rest := [.int x4, .ref aM]) ⟨hx, hb, hml, hown, hts⟩ (c_K_find l dC dI aN aQ aL aB cQ cB H.size kn kp kq ln lb ns o_6 o_7 o_8 hM_8) (cwV 3 hts (gwV wb_356 wb_358 wb_359 wb_360 wb_357) rfl rfl rfl (by decide +kernel) ⟨Nat.le_of_ble_eq_true rfl, Nat.le_of_ble_eq_true rfl⟩) (pr_V (hP.part [8, 9, 2, 3] rfl) (hD.part [8, 9, 2, 3] (by decide) rfl) hK hN [5, 1] rfl (ci := 4) rfl rfl rfl) rfl rfl hl.1 rfl (lv_room (Nat.le_of_ble_eq_true rfl)) d_X_lookUpNames_52 ⟨Nat.zero_le _, Nat.zero_le _⟩) hP hD hS hA (in_pool [8, 9, 2, 3] rfl) (fun r_8 H locs hw hP hS => ?_)
            subst r_8
            cases e_9 : o_8 with
            | none =>
              rw [e_9, oc_none] at hf
              refine W.eq (g2 := F0 m 55 ls [.null, .int x4, .ref aM]) rfl ?_
              refine lv_goto (tgt := 59) hx hb d_X_lookUpNames_55 (by decide) ?_
              obtain ⟨hin, hf⟩ := gi_some hf
              refine va_astqN hx hb hK hP hD hS 1 0 rfl rfl hin d_X_lookUpNames_59 (fun H locs hP hD hS => ?_)
              have hP : va_P (dC, dI) vwCl ([(aX, .inr (5, [.ref aM, .ref aY, .int xn, .ref aV])), (aM, .inl (cM, 1024, .inr (.inr (.inr (.inr (va_up xm x4.toNatClampNeg none)))))), (aL, .inr (1, [.ref aB, .int ln])), (aB, .inl (cB, 1024, .inl lb)), (aT, .inr (2, [.ref aK, .ref aG, .ref aE, .ref aW, .int tn, .int ts])), (aK, .inl (cK, 1024, .inl tk)), (aG, .inl (cG, 1024, .inl tb)), (aE, .inl (cE, 1024, .inl te)), (aN, .inr (4, [.ref aQ, .int kn, .int kp])), (aQ, .inl (cQ, 256, .inr (.inr (.inr (.inr kq)))))] ++ np cB ns) H := hP
              have hD : va_D A ([(aX, .inr (5, [.ref aM, .ref aY, .int xn, .ref aV])), (aM, .inl (cM, 1024, .inr (.inr (.inr (.inr (va_up xm x4.toNatClampNeg none)))))), (aL, .inr (1, [.ref aB, .int ln])), (aB, .inl (cB, 1024, .inl lb)), (aT, .inr (2, [.ref aK, .ref aG, .ref aE, .ref aW, .int tn, .int ts])), (aK, .inl (cK, 1024, .inl tk)), (aG, .inl (cG, 1024, .inl tb)), (aE, .inl (cE, 1024, .inl te)), (aN, .inr (4, [.ref aQ, .int kn, .int kp])), (aQ, .inl (cQ, 256, .inr (.inr (.inr (.inr kq)))))] ++ np cB ns) := hD
              refine lv_iinc (v := x4 + (1 : Int32)) (lv' := [(4, .int (x4 + (1 : Int32))), (0, .ref aX), (1, .ref aL), (2, .ref aT), (3, .ref aN)]) hx hb d_X_lookUpNames_60 hl (k := 4) rfl rfl (by decide) rfl (fun ls hl => ?_)
              refine lv_goto (tgt := 3) hx hb d_X_lookUpNames_63 (by decide) ?_
              exact ih (va_up xm x4.toNatClampNeg none) ln lb tn tk tb te kn kq ns (x4 + (1 : Int32)) H locs ls hf (hP.part (cx := [(aX, .inr (5, [.ref aM, .ref aY, .int xn, .ref aV])), (aM, .inl (cM, 1024, .inr (.inr (.inr (.inr (va_up xm x4.toNatClampNeg none)))))), (aL, .inr (1, [.ref aB, .int ln])), (aB, .inl (cB, 1024, .inl lb)), (aT, .inr (2, [.ref aK, .ref aG, .ref aE, .ref aW, .int tn, .int ts])), (aK, .inl (cK, 1024, .inl tk)), (aG, .inl (cG, 1024, .inl tb)), (aE, .inl (cE, 1024, .inl te)), (aN, .inr (4, [.ref aQ, .int kn, .int kp])), (aQ, .inl (cQ, 256, .inr (.inr (.inr (.inr kq)))))]) [0, 1, 2, 3, 4, 5, 6, 7, 8, 9] rfl) (hD.part (cx := [(aX, .inr (5, [.ref aM, .ref aY, .int xn, .ref aV])), (aM, .inl (cM, 1024, .inr (.inr (.inr (.inr (va_up xm x4.toNatClampNeg none)))))), (aL, .inr (1, [.ref aB, .int ln])), (aB, .inl (cB, 1024, .inl lb)), (aT, .inr (2, [.ref aK, .ref aG, .ref aE, .ref aW, .int tn, .int ts])), (aK, .inl (cK, 1024, .inl tk)), (aG, .inl (cG, 1024, .inl tb)), (aE, .inl (cE, 1024, .inl te)), (aN, .inr (4, [.ref aQ, .int kn, .int kp])), (aQ, .inl (cQ, 256, .inr (.inr (.inr (.inr kq)))))]) [0, 1, 2, 3, 4, 5, 6, 7, 8, 9] (by decide) rfl) hS (lv_sub hl [1, 2, 3, 4, 0] rfl)
            | some z_9 =>
              rw [e_9, oc_some] at hf
              refine W.eq (g2 := F0 m 55 ls [.ref z_9, .int x4, .ref aM]) rfl ?_
              refine lv_goto (tgt := 59) hx hb d_X_lookUpNames_55 (by decide) ?_
              obtain ⟨r_10, hr_10, hf⟩ := bd_some hf
              obtain ⟨kz_10, hz_10, hy_10⟩ := np_get (X := [(aX, .inr (5, [.ref aM, .ref aY, .int xn, .ref aV])), (aM, .inl (cM, 1024, .inr (.inr (.inr (.inr xm))))), (aL, .inr (1, [.ref aB, .int ln])), (aB, .inl (cB, 1024, .inl lb)), (aT, .inr (2, [.ref aK, .ref aG, .ref aE, .ref aW, .int tn, .int ts])), (aK, .inl (cK, 1024, .inl tk)), (aG, .inl (cG, 1024, .inl tb)), (aE, .inl (cE, 1024, .inl te)), (aN, .inr (4, [.ref aQ, .int kn, .int kp])), (aQ, .inl (cQ, 256, .inr (.inr (.inr (.inr kq)))))]) (cB := cB) hr_10
              obtain ⟨hin, hf⟩ := gi_some hf
              refine va_astq hx hb hK hP hD hS 1 0 kz_10 3 rfl rfl hz_10 rfl hin d_X_lookUpNames_59 (fun H locs hP hD hS => ?_)
              have hP : va_P (dC, dI) vwCl ([(aX, .inr (5, [.ref aM, .ref aY, .int xn, .ref aV])), (aM, .inl (cM, 1024, .inr (.inr (.inr (.inr (va_up xm x4.toNatClampNeg (some z_9))))))), (aL, .inr (1, [.ref aB, .int ln])), (aB, .inl (cB, 1024, .inl lb)), (aT, .inr (2, [.ref aK, .ref aG, .ref aE, .ref aW, .int tn, .int ts])), (aK, .inl (cK, 1024, .inl tk)), (aG, .inl (cG, 1024, .inl tb)), (aE, .inl (cE, 1024, .inl te)), (aN, .inr (4, [.ref aQ, .int kn, .int kp])), (aQ, .inl (cQ, 256, .inr (.inr (.inr (.inr kq)))))] ++ np cB ns) H := hP
              have hD : va_D A ([(aX, .inr (5, [.ref aM, .ref aY, .int xn, .ref aV])), (aM, .inl (cM, 1024, .inr (.inr (.inr (.inr (va_up xm x4.toNatClampNeg (some z_9))))))), (aL, .inr (1, [.ref aB, .int ln])), (aB, .inl (cB, 1024, .inl lb)), (aT, .inr (2, [.ref aK, .ref aG, .ref aE, .ref aW, .int tn, .int ts])), (aK, .inl (cK, 1024, .inl tk)), (aG, .inl (cG, 1024, .inl tb)), (aE, .inl (cE, 1024, .inl te)), (aN, .inr (4, [.ref aQ, .int kn, .int kp])), (aQ, .inl (cQ, 256, .inr (.inr (.inr (.inr kq)))))] ++ np cB ns) := hD
              refine lv_iinc (v := x4 + (1 : Int32)) (lv' := [(4, .int (x4 + (1 : Int32))), (0, .ref aX), (1, .ref aL), (2, .ref aT), (3, .ref aN)]) hx hb d_X_lookUpNames_60 hl (k := 4) rfl rfl (by decide) rfl (fun ls hl => ?_)
              refine lv_goto (tgt := 3) hx hb d_X_lookUpNames_63 (by decide) ?_
              exact ih (va_up xm x4.toNatClampNeg (some z_9)) ln lb tn tk tb te kn kq ns (x4 + (1 : Int32)) H locs ls hf (hP.part (cx := [(aX, .inr (5, [.ref aM, .ref aY, .int xn, .ref aV])), (aM, .inl (cM, 1024, .inr (.inr (.inr (.inr (va_up xm x4.toNatClampNeg (some z_9))))))), (aL, .inr (1, [.ref aB, .int ln])), (aB, .inl (cB, 1024, .inl lb)), (aT, .inr (2, [.ref aK, .ref aG, .ref aE, .ref aW, .int tn, .int ts])), (aK, .inl (cK, 1024, .inl tk)), (aG, .inl (cG, 1024, .inl tb)), (aE, .inl (cE, 1024, .inl te)), (aN, .inr (4, [.ref aQ, .int kn, .int kp])), (aQ, .inl (cQ, 256, .inr (.inr (.inr (.inr kq)))))]) [0, 1, 2, 3, 4, 5, 6, 7, 8, 9] rfl) (hD.part (cx := [(aX, .inr (5, [.ref aM, .ref aY, .int xn, .ref aV])), (aM, .inl (cM, 1024, .inr (.inr (.inr (.inr (va_up xm x4.toNatClampNeg (some z_9))))))), (aL, .inr (1, [.ref aB, .int ln])), (aB, .inl (cB, 1024, .inl lb)), (aT, .inr (2, [.ref aK, .ref aG, .ref aE, .ref aW, .int tn, .int ts])), (aK, .inl (cK, 1024, .inl tk)), (aG, .inl (cG, 1024, .inl tb)), (aE, .inl (cE, 1024, .inl te)), (aN, .inr (4, [.ref aQ, .int kn, .int kp])), (aQ, .inl (cQ, 256, .inr (.inr (.inr (.inr kq)))))]) [0, 1, 2, 3, 4, 5, 6, 7, 8, 9] (by decide) rfl) hS (lv_sub hl [1, 2, 3, 4, 0] rfl)
  rw [f_X_lookUpNames] at hf
  refine lv_iconst (v := (0 : Int32)) hx hb d_X_lookUpNames_0 (by decide) ?_
  refine lv_istore (lv' := [(4, .int (0 : Int32)), (0, .ref aX), (1, .ref aL), (2, .ref aT), (3, .ref aN)]) hx hb d_X_lookUpNames_1 hl (by decide) rfl (fun ls hl => ?_)
  exact loop_3 FU xm ln lb tn tk tb te kn kq ns (0 : Int32) s.heap [] ls hf (hP.part (cx := [(aX, .inr (5, [.ref aM, .ref aY, .int xn, .ref aV])), (aM, .inl (cM, 1024, .inr (.inr (.inr (.inr xm))))), (aL, .inr (1, [.ref aB, .int ln])), (aB, .inl (cB, 1024, .inl lb)), (aT, .inr (2, [.ref aK, .ref aG, .ref aE, .ref aW, .int tn, .int ts])), (aK, .inl (cK, 1024, .inl tk)), (aG, .inl (cG, 1024, .inl tb)), (aE, .inl (cE, 1024, .inl te)), (aN, .inr (4, [.ref aQ, .int kn, .int kp])), (aQ, .inl (cQ, 256, .inr (.inr (.inr (.inr kq)))))]) [0, 1, 2, 3, 4, 5, 6, 7, 8, 9] rfl) (hD.part (cx := [(aX, .inr (5, [.ref aM, .ref aY, .int xn, .ref aV])), (aM, .inl (cM, 1024, .inr (.inr (.inr (.inr xm))))), (aL, .inr (1, [.ref aB, .int ln])), (aB, .inl (cB, 1024, .inl lb)), (aT, .inr (2, [.ref aK, .ref aG, .ref aE, .ref aW, .int tn, .int ts])), (aK, .inl (cK, 1024, .inl tk)), (aG, .inl (cG, 1024, .inl tb)), (aE, .inl (cE, 1024, .inl te)), (aN, .inr (4, [.ref aQ, .int kn, .int kp])), (aQ, .inl (cQ, 256, .inr (.inr (.inr (.inr kq)))))]) [0, 1, 2, 3, 4, 5, 6, 7, 8, 9] (by decide) rfl) hS (lv_sub hl [1, 2, 3, 4, 0] rfl)

def f_X_findFault (xn : Int32) (xm : Nat → Option Nat) (xw : Nat → Int32) (vn : Int32) (vd : Int32) (vc : Nat → Int64) (vp : Nat → Int32) (vo : Nat → Int32) (ln : Int32) (lb : Nat → Int32) (tn : Int32) (ts : Int32) (tk : Nat → Int32) (tb : Nat → Int32) (te : Nat → Int32) (tw : Nat → Int64) (kn : Int32) (kq : Nat → Option Nat) (ns : List NmR) (p3 : Int32) : Option (Int32 × Int32 × (Nat → Option Nat) × (Nat → Int32) × Int32 × Int32 × (Nat → Int64) × (Nat → Int32) × (Nat → Int32)) := (f_T_areSound ts).bind (fun o_1 => if o_1 = (0 : Int32) then some ((1 : Int32), xn, xm, xw, vn, vd, vc, vp, vo) else (f_X_lookUpNames xm ln lb tn tk tb te kn kq ns).bind (fun o_3 => (f_X_isExpression o_3 tn tk tw ns p3).bind (fun o_4 => if o_4 = (0 : Int32) then some ((2 : Int32), xn, o_3, xw, vn, vd, vc, vp, vo) else (f_X_areNamesKnown o_3 tn tk).bind (fun o_6 => if o_6 = (0 : Int32) then some ((3 : Int32), xn, o_3, xw, vn, vd, vc, vp, vo) else (f_X_workOut xn o_3 xw vn vd vc vp vo tn tk tw ns).bind (fun o_8 => (f_V_areOdd o_8.2.2.2.1).bind (fun o_9 => if o_9 = (0 : Int32) then some ((0 : Int32), o_8.1, o_3, o_8.2.1, o_8.2.2.1, o_8.2.2.2.1, o_8.2.2.2.2.1, o_8.2.2.2.2.2.1, o_8.2.2.2.2.2.2) else some ((4 : Int32), o_8.1, o_3, o_8.2.1, o_8.2.2.1, o_8.2.2.2.1, o_8.2.2.2.2.1, o_8.2.2.2.2.2.1, o_8.2.2.2.2.2.2)))))))
set_option maxHeartbeats 4000000 in
set_option maxRecDepth 100000 in
theorem c_X_findFault (l : Launch) (dC : Nat → ClassId) (dI : Nat → Nat → Nat) (aX aM aY aV aC aP aO aL aB aT aK aG aE aW aN aQ : Nat) (cM cY cC cP cO cB cK cG cE cW cQ : ClassId) (sz : Nat) (xn : Int32) (xm : Nat → Option Nat) (xw : Nat → Int32) (vn : Int32) (vd : Int32) (vc : Nat → Int64) (vp : Nat → Int32) (vo : Nat → Int32) (ln : Int32) (lb : Nat → Int32) (tn : Int32) (ts : Int32) (tk : Nat → Int32) (tb : Nat → Int32) (te : Nat → Int32) (tw : Nat → Int64) (kn : Int32) (kp : Int32) (kq : Nat → Option Nat) (ns : List NmR) (p3 : Int32) (o : Int32 × Int32 × (Nat → Option Nat) × (Nat → Int32) × Int32 × Int32 × (Nat → Int64) × (Nat → Int32) × (Nat → Int32)) (hf : f_X_findFault xn xm xw vn vd vc vp vo ln lb tn ts tk tb te tw kn kq ns p3 = some o) : Met l y_X_findFault (w_X_findFault) ({ frames := 5, cells := 0, slots := 0, locals := 120 }) (va_Pc [.ref aX, .ref aL, .ref aT, .ref aN, .int p3] (fun U => U.heap.size = sz ∧ va_P (dC, dI) vwCl ([(aX, .inr (5, [.ref aM, .ref aY, .int xn, .ref aV])), (aM, .inl (cM, 1024, .inr (.inr (.inr (.inr xm))))), (aY, .inl (cY, 1024, .inl xw)), (aV, .inr (6, [.ref aC, .ref aP, .ref aO, .int vn, .int vd])), (aC, .inl (cC, 512, .inr (.inl vc))), (aP, .inl (cP, 512, .inl vp)), (aO, .inl (cO, 512, .inl vo)), (aL, .inr (1, [.ref aB, .int ln])), (aB, .inl (cB, 1024, .inl lb)), (aT, .inr (2, [.ref aK, .ref aG, .ref aE, .ref aW, .int tn, .int ts])), (aK, .inl (cK, 1024, .inl tk)), (aG, .inl (cG, 1024, .inl tb)), (aE, .inl (cE, 1024, .inl te)), (aW, .inl (cW, 1024, .inr (.inl tw))), (aN, .inr (4, [.ref aQ, .int kn, .int kp])), (aQ, .inl (cQ, 256, .inr (.inr (.inr (.inr kq)))))] ++ np cB ns) U.heap ∧ va_K (dC, dI) vwCl [(cM, (.object "ExpressionReader$Name")), (cY, .byte), (cC, .long), (cP, .int), (cO, .int), (cB, .byte), (cK, .byte), (cG, .int), (cE, .int), (cW, .long), (cQ, (.object "ExpressionReader$Name"))] U ∧ va_D (fun _ => True) ([(aX, .inr (5, [.ref aM, .ref aY, .int xn, .ref aV])), (aM, .inl (cM, 1024, .inr (.inr (.inr (.inr xm))))), (aY, .inl (cY, 1024, .inl xw)), (aV, .inr (6, [.ref aC, .ref aP, .ref aO, .int vn, .int vd])), (aC, .inl (cC, 512, .inr (.inl vc))), (aP, .inl (cP, 512, .inl vp)), (aO, .inl (cO, 512, .inl vo)), (aL, .inr (1, [.ref aB, .int ln])), (aB, .inl (cB, 1024, .inl lb)), (aT, .inr (2, [.ref aK, .ref aG, .ref aE, .ref aW, .int tn, .int ts])), (aK, .inl (cK, 1024, .inl tk)), (aG, .inl (cG, 1024, .inl tb)), (aE, .inl (cE, 1024, .inl te)), (aW, .inl (cW, 1024, .inr (.inl tw))), (aN, .inr (4, [.ref aQ, .int kn, .int kp])), (aQ, .inl (cQ, 256, .inr (.inr (.inr (.inr kq)))))] ++ np cB ns) ∧ NW U)) (va_Qi (fun (r : Int32) (_ : Unit) => r = o.1) (fun _ t => va_P (dC, dI) vwCl ([(aX, .inr (5, [.ref aM, .ref aY, .int o.2.1, .ref aV])), (aM, .inl (cM, 1024, .inr (.inr (.inr (.inr o.2.2.1))))), (aY, .inl (cY, 1024, .inl o.2.2.2.1)), (aV, .inr (6, [.ref aC, .ref aP, .ref aO, .int o.2.2.2.2.1, .int o.2.2.2.2.2.1])), (aC, .inl (cC, 512, .inr (.inl o.2.2.2.2.2.2.1))), (aP, .inl (cP, 512, .inl o.2.2.2.2.2.2.2.1)), (aO, .inl (cO, 512, .inl o.2.2.2.2.2.2.2.2)), (aL, .inr (1, [.ref aB, .int ln])), (aB, .inl (cB, 1024, .inl lb)), (aT, .inr (2, [.ref aK, .ref aG, .ref aE, .ref aW, .int tn, .int ts])), (aK, .inl (cK, 1024, .inl tk)), (aG, .inl (cG, 1024, .inl tb)), (aE, .inl (cE, 1024, .inl te)), (aW, .inl (cW, 1024, .inr (.inl tw))), (aN, .inr (4, [.ref aQ, .int kn, .int kp])), (aQ, .inl (cQ, 256, .inr (.inr (.inr (.inr kq)))))] ++ np cB ns) t.heap ∧ va_K (dC, dI) vwCl [(cM, (.object "ExpressionReader$Name")), (cY, .byte), (cC, .long), (cP, .int), (cO, .int), (cB, .byte), (cK, .byte), (cG, .int), (cE, .int), (cW, .long), (cQ, (.object "ExpressionReader$Name"))] t ∧ va_D (va_A ([(aX, .inr (5, [.ref aM, .ref aY, .int xn, .ref aV])), (aM, .inl (cM, 1024, .inr (.inr (.inr (.inr xm))))), (aY, .inl (cY, 1024, .inl xw)), (aV, .inr (6, [.ref aC, .ref aP, .ref aO, .int vn, .int vd])), (aC, .inl (cC, 512, .inr (.inl vc))), (aP, .inl (cP, 512, .inl vp)), (aO, .inl (cO, 512, .inl vo)), (aL, .inr (1, [.ref aB, .int ln])), (aB, .inl (cB, 1024, .inl lb)), (aT, .inr (2, [.ref aK, .ref aG, .ref aE, .ref aW, .int tn, .int ts])), (aK, .inl (cK, 1024, .inl tk)), (aG, .inl (cG, 1024, .inl tb)), (aE, .inl (cE, 1024, .inl te)), (aW, .inl (cW, 1024, .inr (.inl tw))), (aN, .inr (4, [.ref aQ, .int kn, .int kp])), (aQ, .inl (cQ, 256, .inr (.inr (.inr (.inr kq)))))] ++ np cB ns) sz) ([(aX, .inr (5, [.ref aM, .ref aY, .int o.2.1, .ref aV])), (aM, .inl (cM, 1024, .inr (.inr (.inr (.inr o.2.2.1))))), (aY, .inl (cY, 1024, .inl o.2.2.2.1)), (aV, .inr (6, [.ref aC, .ref aP, .ref aO, .int o.2.2.2.2.1, .int o.2.2.2.2.2.1])), (aC, .inl (cC, 512, .inr (.inl o.2.2.2.2.2.2.1))), (aP, .inl (cP, 512, .inl o.2.2.2.2.2.2.2.1)), (aO, .inl (cO, 512, .inl o.2.2.2.2.2.2.2.2)), (aL, .inr (1, [.ref aB, .int ln])), (aB, .inl (cB, 1024, .inl lb)), (aT, .inr (2, [.ref aK, .ref aG, .ref aE, .ref aW, .int tn, .int ts])), (aK, .inl (cK, 1024, .inl tk)), (aG, .inl (cG, 1024, .inl tb)), (aE, .inl (cE, 1024, .inl te)), (aW, .inl (cW, 1024, .inr (.inl tw))), (aN, .inr (4, [.ref aQ, .int kn, .int kp])), (aQ, .inl (cQ, 256, .inr (.inr (.inr (.inr kq)))))] ++ np cB ns)) (va_A ([(aX, .inr (5, [.ref aM, .ref aY, .int xn, .ref aV])), (aM, .inl (cM, 1024, .inr (.inr (.inr (.inr xm))))), (aY, .inl (cY, 1024, .inl xw)), (aV, .inr (6, [.ref aC, .ref aP, .ref aO, .int vn, .int vd])), (aC, .inl (cC, 512, .inr (.inl vc))), (aP, .inl (cP, 512, .inl vp)), (aO, .inl (cO, 512, .inl vo)), (aL, .inr (1, [.ref aB, .int ln])), (aB, .inl (cB, 1024, .inl lb)), (aT, .inr (2, [.ref aK, .ref aG, .ref aE, .ref aW, .int tn, .int ts])), (aK, .inl (cK, 1024, .inl tk)), (aG, .inl (cG, 1024, .inl tb)), (aE, .inl (cE, 1024, .inl te)), (aW, .inl (cW, 1024, .inr (.inl tw))), (aN, .inr (4, [.ref aQ, .int kn, .int kp])), (aQ, .inl (cQ, 256, .inr (.inr (.inr (.inr kq)))))] ++ np cB ns) sz)) 0 0 (va_A ([(aX, .inr (5, [.ref aM, .ref aY, .int xn, .ref aV])), (aM, .inl (cM, 1024, .inr (.inr (.inr (.inr xm))))), (aY, .inl (cY, 1024, .inl xw)), (aV, .inr (6, [.ref aC, .ref aP, .ref aO, .int vn, .int vd])), (aC, .inl (cC, 512, .inr (.inl vc))), (aP, .inl (cP, 512, .inl vp)), (aO, .inl (cO, 512, .inl vo)), (aL, .inr (1, [.ref aB, .int ln])), (aB, .inl (cB, 1024, .inl lb)), (aT, .inr (2, [.ref aK, .ref aG, .ref aE, .ref aW, .int tn, .int ts])), (aK, .inl (cK, 1024, .inl tk)), (aG, .inl (cG, 1024, .inl tb)), (aE, .inl (cE, 1024, .inl te)), (aW, .inl (cW, 1024, .inr (.inl tw))), (aN, .inr (4, [.ref aQ, .int kn, .int kp])), (aQ, .inl (cQ, 256, .inr (.inr (.inr (.inr kq)))))] ++ np cB ns) sz) := by
  refine Met.ofW (cc := b_X_findFault) (maxL := 5) (ret := (some .int)) (by decide) rfl ?_
  intro p e s m args below meth c s₁ B hml hv
  obtain ⟨rfl, hsz, hP, hK, hD0, hN⟩ := hv
  have hx := B.exec
  have hb := B.bytes
  have hr := B.returns
  have hts : ∀ w ∈ WB, w.before _ s = true := fun w h => atoms_spec (ws := w_X_findFault) B.pre w (List.mem_cons_of_mem _ h)
  have hown : s.vm.findClass R_X = some m.cls := findClass_of_methodNamed B.named
  have hlocks := B.notSynchronized
  subst hsz
  have hD := hD0.self (sz := s.heap.size)
  generalize hAe : va_A ([(aX, .inr (5, [.ref aM, .ref aY, .int xn, .ref aV])), (aM, .inl (cM, 1024, .inr (.inr (.inr (.inr xm))))), (aY, .inl (cY, 1024, .inl xw)), (aV, .inr (6, [.ref aC, .ref aP, .ref aO, .int vn, .int vd])), (aC, .inl (cC, 512, .inr (.inl vc))), (aP, .inl (cP, 512, .inl vp)), (aO, .inl (cO, 512, .inl vo)), (aL, .inr (1, [.ref aB, .int ln])), (aB, .inl (cB, 1024, .inl lb)), (aT, .inr (2, [.ref aK, .ref aG, .ref aE, .ref aW, .int tn, .int ts])), (aK, .inl (cK, 1024, .inl tk)), (aG, .inl (cG, 1024, .inl tb)), (aE, .inl (cE, 1024, .inl te)), (aW, .inl (cW, 1024, .inr (.inl tw))), (aN, .inr (4, [.ref aQ, .int kn, .int kp])), (aQ, .inl (cQ, 256, .inr (.inr (.inr (.inr kq)))))] ++ np cB ns) s.heap.size = A at hD ⊢
  have hA : ∀ q : Nat, s.heap.size ≤ q → A q := fun q h => by rw [← hAe]; exact Or.inr h
  have hS : va_S A s.heap s.heap [] := va_S.rf
  have hP : va_P (dC, dI) vwCl ([(aX, .inr (5, [.ref aM, .ref aY, .int xn, .ref aV])), (aM, .inl (cM, 1024, .inr (.inr (.inr (.inr xm))))), (aY, .inl (cY, 1024, .inl xw)), (aV, .inr (6, [.ref aC, .ref aP, .ref aO, .int vn, .int vd])), (aC, .inl (cC, 512, .inr (.inl vc))), (aP, .inl (cP, 512, .inl vp)), (aO, .inl (cO, 512, .inl vo)), (aL, .inr (1, [.ref aB, .int ln])), (aB, .inl (cB, 1024, .inl lb)), (aT, .inr (2, [.ref aK, .ref aG, .ref aE, .ref aW, .int tn, .int ts])), (aK, .inl (cK, 1024, .inl tk)), (aG, .inl (cG, 1024, .inl tb)), (aE, .inl (cE, 1024, .inl te)), (aW, .inl (cW, 1024, .inr (.inl tw))), (aN, .inr (4, [.ref aQ, .int kn, .int kp])), (aQ, .inl (cQ, 256, .inr (.inr (.inr (.inr kq)))))] ++ np cB ns) s.heap := hP
  have hl := lv_entry [.ref aX, .ref aL, .ref aT, .ref aN, .int p3] (n := 5) (Nat.le_of_ble_eq_true rfl)
  rw [lg_entry_eq]
  generalize (lg_sl [.ref aX, .ref aL, .ref aT, .ref aN, .int p3] ++ List.replicate (5 - (lg_sl [.ref aX, .ref aL, .ref aT, .ref aN, .int p3]).length) Slot.unset).toArray = ls at hl ⊢
  have hl : lv_has ls 5 [(0, .ref aX), (1, .ref aL), (2, .ref aT), (3, .ref aN), (4, .int p3)] := hl
  rw [f_X_findFault] at hf
  refine lv_aload_n hx hb d_X_findFault_0 rfl (lv_at hl 2 rfl) ?_
  obtain ⟨o_1, hM_1, hf⟩ := bd_some hf
  refine cr_i (va_runV (As := []) (rest := []) ⟨hx, hb, hml, hown, hts⟩ (c_T_areSound l dC dI aT aK aG aE aW  s.heap.size tn ts  o_1 hM_1) (cwV 0 hts (gwV wb_361 wb_363 wb_364 wb_32 wb_362) rfl rfl rfl (by decide +kernel) ⟨Nat.le_of_ble_eq_true rfl, Nat.le_of_ble_eq_true rfl⟩) (pr_V (hP.sub [9] rfl) (hD.sub [9] (by decide) rfl) hK hN [] rfl (ci := 2) rfl rfl rfl) rfl rfl hl.1 rfl (lv_room (Nat.le_of_ble_eq_true rfl)) d_X_findFault_1 ⟨Nat.zero_le _, Nat.zero_le _⟩) hP hD hS hA (in_of [9] rfl) (fun r_1 H locs hw hP hS => ?_)
  obtain ⟨hw, hz_1⟩ := hw
  subst r_1
  refine lv_if_ne (tgt := 9) hx hb d_X_findFault_4 (by decide) (fun c_2 => ?_) (fun c_2 => ?_)
  · rw [if_neg c_2] at hf
    refine lv_aload_n hx hb d_X_findFault_9 rfl (lv_at hl 0 rfl) ?_
    refine lv_aload_n hx hb d_X_findFault_10 rfl (lv_at hl 1 rfl) ?_
    refine lv_aload_n hx hb d_X_findFault_11 rfl (lv_at hl 2 rfl) ?_
    refine lv_aload_n hx hb d_X_findFault_12 rfl (lv_at hl 3 rfl) ?_
    obtain ⟨o_3, hM_3, hf⟩ := bd_some hf
    refine cp_v (wr := [(aY, .inl (cY, 1024, .inl xw)), (aV, .inr (6, [.ref aC, .ref aP, .ref aO, .int vn, .int vd])), (aC, .inl (cC, 512, .inr (.inl vc))), (aP, .inl (cP, 512, .inl vp)), (aO, .inl (cO, 512, .inl vo)), (aW, .inl (cW, 1024, .inr (.inl tw)))]) (va_runV (As := [.ref aL, .ref aT, .ref aN]) (rest := []) ⟨hx, hb, hml, hown, hts⟩ (c_X_lookUpNames l dC dI aX aM aY aV aC aP aO aL aB aT aK aG aE aW aN aQ cM cB cK cG cE cQ H.size xn xm ln lb tn ts tk tb te kn kp kq ns  o_3 hM_3) (cwV 3 hts (gwV wb_365 wb_367 wb_368 wb_158 wb_366) rfl rfl rfl (by decide +kernel) ⟨Nat.le_of_ble_eq_true rfl, Nat.le_of_ble_eq_true rfl⟩) (pr_V (hP.part [0, 1, 7, 8, 9, 10, 11, 12, 14, 15] rfl) (hD.part [0, 1, 7, 8, 9, 10, 11, 12, 14, 15] (by decide) rfl) hK hN [0, 5, 6, 7, 8, 10] rfl (ci := 5) rfl rfl rfl) rfl rfl hl.1 rfl (lv_room (Nat.le_of_ble_eq_true rfl)) d_X_findFault_13 ⟨Nat.zero_le _, Nat.zero_le _⟩) hP hD hS hA [0, 1, 7, 8, 9, 10, 11, 12, 14, 15] [2, 3, 4, 5, 6, 13] rfl rfl (by decide) (by decide) (fun H locs hw hP hD hS => ?_)
    have hP : va_P (dC, dI) vwCl ([(aY, .inl (cY, 1024, .inl xw)), (aV, .inr (6, [.ref aC, .ref aP, .ref aO, .int vn, .int vd])), (aC, .inl (cC, 512, .inr (.inl vc))), (aP, .inl (cP, 512, .inl vp)), (aO, .inl (cO, 512, .inl vo)), (aW, .inl (cW, 1024, .inr (.inl tw))), (aX, .inr (5, [.ref aM, .ref aY, .int xn, .ref aV])), (aM, .inl (cM, 1024, .inr (.inr (.inr (.inr o_3))))), (aL, .inr (1, [.ref aB, .int ln])), (aB, .inl (cB, 1024, .inl lb)), (aT, .inr (2, [.ref aK, .ref aG, .ref aE, .ref aW, .int tn, .int ts])), (aK, .inl (cK, 1024, .inl tk)), (aG, .inl (cG, 1024, .inl tb)), (aE, .inl (cE, 1024, .inl te)), (aN, .inr (4, [.ref aQ, .int kn, .int kp])), (aQ, .inl (cQ, 256, .inr (.inr (.inr (.inr kq)))))] ++ np cB ns) H := hP
    have hD : va_D A ([(aY, .inl (cY, 1024, .inl xw)), (aV, .inr (6, [.ref aC, .ref aP, .ref aO, .int vn, .int vd])), (aC, .inl (cC, 512, .inr (.inl vc))), (aP, .inl (cP, 512, .inl vp)), (aO, .inl (cO, 512, .inl vo)), (aW, .inl (cW, 1024, .inr (.inl tw))), (aX, .inr (5, [.ref aM, .ref aY, .int xn, .ref aV])), (aM, .inl (cM, 1024, .inr (.inr (.inr (.inr o_3))))), (aL, .inr (1, [.ref aB, .int ln])), (aB, .inl (cB, 1024, .inl lb)), (aT, .inr (2, [.ref aK, .ref aG, .ref aE, .ref aW, .int tn, .int ts])), (aK, .inl (cK, 1024, .inl tk)), (aG, .inl (cG, 1024, .inl tb)), (aE, .inl (cE, 1024, .inl te)), (aN, .inr (4, [.ref aQ, .int kn, .int kp])), (aQ, .inl (cQ, 256, .inr (.inr (.inr (.inr kq)))))] ++ np cB ns) := hD
    refine lv_aload_n hx hb d_X_findFault_16 rfl (lv_at hl 0 rfl) ?_
    refine lv_aload_n hx hb d_X_findFault_17 rfl (lv_at hl 2 rfl) ?_
    refine lv_iload hx hb d_X_findFault_18 (lv_at hl 4 rfl) ?_
    obtain ⟨o_4, hM_4, hf⟩ := bd_some hf
    refine cr_i (va_runV (As := [.ref aT, .int p3]) (rest := []) ⟨hx, hb, hml, hown, hts⟩ (c_X_isExpression l dC dI aX aM aY aV aC aP aO aT aK aG aE aW cM cK cW cB H.size xn o_3 tn ts tk tw ns p3 o_4 hM_4) (cwV 2 hts (gwV wb_369 wb_371 wb_372 wb_158 wb_370) rfl rfl rfl (by decide +kernel) ⟨Nat.le_of_ble_eq_true rfl, Nat.le_of_ble_eq_true rfl⟩) (pr_V (hP.part [6, 7, 10, 11, 5] rfl) (hD.part [6, 7, 10, 11, 5] (by decide) rfl) hK hN [0, 6, 9, 5] rfl (ci := 5) rfl rfl rfl) rfl rfl hl.1 rfl (lv_room (Nat.le_of_ble_eq_true rfl)) d_X_findFault_20 ⟨Nat.zero_le _, Nat.zero_le _⟩) hP hD hS hA (in_pool [6, 7, 10, 11, 5] rfl) (fun r_4 H locs hw hP hS => ?_)
    obtain ⟨hw, hz_4⟩ := hw
    subst r_4
    refine lv_if_ne (tgt := 28) hx hb d_X_findFault_23 (by decide) (fun c_5 => ?_) (fun c_5 => ?_)
    · rw [if_neg c_5] at hf
      refine lv_aload_n hx hb d_X_findFault_28 rfl (lv_at hl 0 rfl) ?_
      refine lv_aload_n hx hb d_X_findFault_29 rfl (lv_at hl 2 rfl) ?_
      obtain ⟨o_6, hM_6, hf⟩ := bd_some hf
      refine cr_i (va_runV (As := [.ref aT]) (rest := []) ⟨hx, hb, hml, hown, hts⟩ (c_X_areNamesKnown l dC dI aX aM aY aV aC aP aO aT aK aG aE aW cM cK H.size xn o_3 tn ts tk  o_6 hM_6) (cwV 1 hts (gwV wb_373 wb_375 wb_376 wb_158 wb_374) rfl rfl rfl (by decide +kernel) ⟨Nat.le_of_ble_eq_true rfl, Nat.le_of_ble_eq_true rfl⟩) (pr_V (hP.sub [6, 7, 10, 11] rfl) (hD.sub [6, 7, 10, 11] (by decide) rfl) hK hN [0, 6] rfl (ci := 5) rfl rfl rfl) rfl rfl hl.1 rfl (lv_room (Nat.le_of_ble_eq_true rfl)) d_X_findFault_30 ⟨Nat.zero_le _, Nat.zero_le _⟩) hP hD hS hA (in_of [6, 7, 10, 11] rfl) (fun r_6 H locs hw hP hS => ?_)
      obtain ⟨hw, hz_6⟩ := hw
      subst r_6
      refine lv_if_ne (tgt := 38) hx hb d_X_findFault_33 (by decide) (fun c_7 => ?_) (fun c_7 => ?_)
      · rw [if_neg c_7] at hf
        refine lv_aload_n hx hb d_X_findFault_38 rfl (lv_at hl 0 rfl) ?_
        refine lv_aload_n hx hb d_X_findFault_39 rfl (lv_at hl 2 rfl) ?_
        obtain ⟨o_8, hM_8, hf⟩ := bd_some hf
        refine cp_v (wr := [(aL, .inr (1, [.ref aB, .int ln])), (aB, .inl (cB, 1024, .inl lb)), (aG, .inl (cG, 1024, .inl tb)), (aE, .inl (cE, 1024, .inl te)), (aN, .inr (4, [.ref aQ, .int kn, .int kp])), (aQ, .inl (cQ, 256, .inr (.inr (.inr (.inr kq)))))]) (va_runV (As := [.ref aT]) (rest := []) ⟨hx, hb, hml, hown, hts⟩ (c_X_workOut l dC dI aX aM aY aV aC aP aO aT aK aG aE aW cM cY cC cP cO cK cW cB H.size xn o_3 xw vn vd vc vp vo tn ts tk tw ns  o_8 hM_8) (cwV 1 hts (gwV wb_377 wb_379 wb_380 wb_158 wb_378) rfl rfl rfl (by decide +kernel) ⟨Nat.le_of_ble_eq_true rfl, Nat.le_of_ble_eq_true rfl⟩) (pr_V (hP.part [6, 7, 0, 1, 2, 3, 4, 10, 11, 5] rfl) (hD.part [6, 7, 0, 1, 2, 3, 4, 10, 11, 5] (by decide) rfl) hK hN [0, 1, 2, 3, 4, 6, 9, 5] rfl (ci := 5) rfl rfl rfl) rfl rfl hl.1 rfl (lv_room (Nat.le_of_ble_eq_true rfl)) d_X_findFault_40 ⟨Nat.zero_le _, Nat.zero_le _⟩) hP hD hS hA [6, 7, 0, 1, 2, 3, 4, 10, 11, 5] [8, 9, 12, 13, 14, 15] rfl rfl (by decide) (by decide) (fun H locs hw hP hD hS => ?_)
        have hP : va_P (dC, dI) vwCl ([(aL, .inr (1, [.ref aB, .int ln])), (aB, .inl (cB, 1024, .inl lb)), (aG, .inl (cG, 1024, .inl tb)), (aE, .inl (cE, 1024, .inl te)), (aN, .inr (4, [.ref aQ, .int kn, .int kp])), (aQ, .inl (cQ, 256, .inr (.inr (.inr (.inr kq))))), (aX, .inr (5, [.ref aM, .ref aY, .int o_8.1, .ref aV])), (aM, .inl (cM, 1024, .inr (.inr (.inr (.inr o_3))))), (aY, .inl (cY, 1024, .inl o_8.2.1)), (aV, .inr (6, [.ref aC, .ref aP, .ref aO, .int o_8.2.2.1, .int o_8.2.2.2.1])), (aC, .inl (cC, 512, .inr (.inl o_8.2.2.2.2.1))), (aP, .inl (cP, 512, .inl o_8.2.2.2.2.2.1)), (aO, .inl (cO, 512, .inl o_8.2.2.2.2.2.2)), (aT, .inr (2, [.ref aK, .ref aG, .ref aE, .ref aW, .int tn, .int ts])), (aK, .inl (cK, 1024, .inl tk)), (aW, .inl (cW, 1024, .inr (.inl tw)))] ++ np cB ns) H := hP
        have hD : va_D A ([(aL, .inr (1, [.ref aB, .int ln])), (aB, .inl (cB, 1024, .inl lb)), (aG, .inl (cG, 1024, .inl tb)), (aE, .inl (cE, 1024, .inl te)), (aN, .inr (4, [.ref aQ, .int kn, .int kp])), (aQ, .inl (cQ, 256, .inr (.inr (.inr (.inr kq))))), (aX, .inr (5, [.ref aM, .ref aY, .int o_8.1, .ref aV])), (aM, .inl (cM, 1024, .inr (.inr (.inr (.inr o_3))))), (aY, .inl (cY, 1024, .inl o_8.2.1)), (aV, .inr (6, [.ref aC, .ref aP, .ref aO, .int o_8.2.2.1, .int o_8.2.2.2.1])), (aC, .inl (cC, 512, .inr (.inl o_8.2.2.2.2.1))), (aP, .inl (cP, 512, .inl o_8.2.2.2.2.2.1)), (aO, .inl (cO, 512, .inl o_8.2.2.2.2.2.2)), (aT, .inr (2, [.ref aK, .ref aG, .ref aE, .ref aW, .int tn, .int ts])), (aK, .inl (cK, 1024, .inl tk)), (aW, .inl (cW, 1024, .inr (.inl tw)))] ++ np cB ns) := hD
        refine lv_aload_n hx hb d_X_findFault_43 rfl (lv_at hl 0 rfl) ?_
        refine va_get (D := (dC, dI)) (ci := 5) (v := .ref aV) (C := R_X) (T := F_X) (N := 4) hx hb hts i_X hown hK hP 6 rfl rfl 3 (by decide) (hts _ wb_135) (fun _ h9 => h9) rfl d_X_findFault_44 ?_
        obtain ⟨o_9, hM_9, hf⟩ := bd_some hf
        refine cr_i (va_runV (As := []) (rest := []) ⟨hx, hb, hml, hown, hts⟩ (c_V_areOdd l dC dI aV aC aP aO  H.size o_8.2.2.1 o_8.2.2.2.1  o_9 hM_9) (cwV 0 hts (gwV wb_381 wb_383 wb_384 wb_112 wb_382) rfl rfl rfl (by decide +kernel) ⟨Nat.le_of_ble_eq_true rfl, Nat.le_of_ble_eq_true rfl⟩) (pr_V (hP.sub [9] rfl) (hD.sub [9] (by decide) rfl) hK hN [] rfl (ci := 6) rfl rfl rfl) rfl rfl hl.1 rfl (lv_room (Nat.le_of_ble_eq_true rfl)) d_X_findFault_47 ⟨Nat.zero_le _, Nat.zero_le _⟩) hP hD hS hA (in_of [9] rfl) (fun r_9 H locs hw hP hS => ?_)
        obtain ⟨hw, hz_9⟩ := hw
        subst r_9
        refine lv_if_eq (tgt := 57) hx hb d_X_findFault_50 (by decide) (fun c_10 => ?_) (fun c_10 => ?_)
        · rw [if_pos c_10] at hf
          refine lv_iconst (v := (0 : Int32)) hx hb d_X_findFault_57 (by decide) ?_
          have ho := Option.some.inj hf
          subst o
          have hP9 := hP.part (cx := [(aX, .inr (5, [.ref aM, .ref aY, .int o_8.1, .ref aV])), (aM, .inl (cM, 1024, .inr (.inr (.inr (.inr o_3))))), (aY, .inl (cY, 1024, .inl o_8.2.1)), (aV, .inr (6, [.ref aC, .ref aP, .ref aO, .int o_8.2.2.1, .int o_8.2.2.2.1])), (aC, .inl (cC, 512, .inr (.inl o_8.2.2.2.2.1))), (aP, .inl (cP, 512, .inl o_8.2.2.2.2.2.1)), (aO, .inl (cO, 512, .inl o_8.2.2.2.2.2.2)), (aL, .inr (1, [.ref aB, .int ln])), (aB, .inl (cB, 1024, .inl lb)), (aT, .inr (2, [.ref aK, .ref aG, .ref aE, .ref aW, .int tn, .int ts])), (aK, .inl (cK, 1024, .inl tk)), (aG, .inl (cG, 1024, .inl tb)), (aE, .inl (cE, 1024, .inl te)), (aW, .inl (cW, 1024, .inr (.inl tw))), (aN, .inr (4, [.ref aQ, .int kn, .int kp])), (aQ, .inl (cQ, 256, .inr (.inr (.inr (.inr kq)))))]) [6, 7, 8, 9, 10, 11, 12, 0, 1, 13, 14, 2, 3, 15, 4, 5] rfl
          have hD9 := hD.part (cx := [(aX, .inr (5, [.ref aM, .ref aY, .int o_8.1, .ref aV])), (aM, .inl (cM, 1024, .inr (.inr (.inr (.inr o_3))))), (aY, .inl (cY, 1024, .inl o_8.2.1)), (aV, .inr (6, [.ref aC, .ref aP, .ref aO, .int o_8.2.2.1, .int o_8.2.2.2.1])), (aC, .inl (cC, 512, .inr (.inl o_8.2.2.2.2.1))), (aP, .inl (cP, 512, .inl o_8.2.2.2.2.2.1)), (aO, .inl (cO, 512, .inl o_8.2.2.2.2.2.2)), (aL, .inr (1, [.ref aB, .int ln])), (aB, .inl (cB, 1024, .inl lb)), (aT, .inr (2, [.ref aK, .ref aG, .ref aE, .ref aW, .int tn, .int ts])), (aK, .inl (cK, 1024, .inl tk)), (aG, .inl (cG, 1024, .inl tb)), (aE, .inl (cE, 1024, .inl te)), (aW, .inl (cW, 1024, .inr (.inl tw))), (aN, .inr (4, [.ref aQ, .int kn, .int kp])), (aQ, .inl (cQ, 256, .inr (.inr (.inr (.inr kq)))))]) [6, 7, 8, 9, 10, 11, 12, 0, 1, 13, 14, 2, 3, 15, 4, 5] (by decide) rfl
          exact W.iret (v := (0 : Int32)) hx hb hr (fun t ht hW => ⟨⟨(0 : Int32), (), rfl, rfl, by rw [ht]; exact hP9, va_K.moved hW.alike hK, hD9⟩, hS.F ht⟩) hS.2.2 d_X_findFault_58
        · rw [if_neg c_10] at hf
          refine lv_iconst (v := (4 : Int32)) hx hb d_X_findFault_53 (by decide) ?_
          refine lv_goto (tgt := 58) hx hb d_X_findFault_54 (by decide) ?_
          have ho := Option.some.inj hf
          subst o
          have hP9 := hP.part (cx := [(aX, .inr (5, [.ref aM, .ref aY, .int o_8.1, .ref aV])), (aM, .inl (cM, 1024, .inr (.inr (.inr (.inr o_3))))), (aY, .inl (cY, 1024, .inl o_8.2.1)), (aV, .inr (6, [.ref aC, .ref aP, .ref aO, .int o_8.2.2.1, .int o_8.2.2.2.1])), (aC, .inl (cC, 512, .inr (.inl o_8.2.2.2.2.1))), (aP, .inl (cP, 512, .inl o_8.2.2.2.2.2.1)), (aO, .inl (cO, 512, .inl o_8.2.2.2.2.2.2)), (aL, .inr (1, [.ref aB, .int ln])), (aB, .inl (cB, 1024, .inl lb)), (aT, .inr (2, [.ref aK, .ref aG, .ref aE, .ref aW, .int tn, .int ts])), (aK, .inl (cK, 1024, .inl tk)), (aG, .inl (cG, 1024, .inl tb)), (aE, .inl (cE, 1024, .inl te)), (aW, .inl (cW, 1024, .inr (.inl tw))), (aN, .inr (4, [.ref aQ, .int kn, .int kp])), (aQ, .inl (cQ, 256, .inr (.inr (.inr (.inr kq)))))]) [6, 7, 8, 9, 10, 11, 12, 0, 1, 13, 14, 2, 3, 15, 4, 5] rfl
          have hD9 := hD.part (cx := [(aX, .inr (5, [.ref aM, .ref aY, .int o_8.1, .ref aV])), (aM, .inl (cM, 1024, .inr (.inr (.inr (.inr o_3))))), (aY, .inl (cY, 1024, .inl o_8.2.1)), (aV, .inr (6, [.ref aC, .ref aP, .ref aO, .int o_8.2.2.1, .int o_8.2.2.2.1])), (aC, .inl (cC, 512, .inr (.inl o_8.2.2.2.2.1))), (aP, .inl (cP, 512, .inl o_8.2.2.2.2.2.1)), (aO, .inl (cO, 512, .inl o_8.2.2.2.2.2.2)), (aL, .inr (1, [.ref aB, .int ln])), (aB, .inl (cB, 1024, .inl lb)), (aT, .inr (2, [.ref aK, .ref aG, .ref aE, .ref aW, .int tn, .int ts])), (aK, .inl (cK, 1024, .inl tk)), (aG, .inl (cG, 1024, .inl tb)), (aE, .inl (cE, 1024, .inl te)), (aW, .inl (cW, 1024, .inr (.inl tw))), (aN, .inr (4, [.ref aQ, .int kn, .int kp])), (aQ, .inl (cQ, 256, .inr (.inr (.inr (.inr kq)))))]) [6, 7, 8, 9, 10, 11, 12, 0, 1, 13, 14, 2, 3, 15, 4, 5] (by decide) rfl
          exact W.iret (v := (4 : Int32)) hx hb hr (fun t ht hW => ⟨⟨(4 : Int32), (), rfl, rfl, by rw [ht]; exact hP9, va_K.moved hW.alike hK, hD9⟩, hS.F ht⟩) hS.2.2 d_X_findFault_58
      · rw [if_pos c_7] at hf
        refine lv_iconst (v := (3 : Int32)) hx hb d_X_findFault_36 (by decide) ?_
        have ho := Option.some.inj hf
        subst o
        have hP9 := hP.part (cx := [(aX, .inr (5, [.ref aM, .ref aY, .int xn, .ref aV])), (aM, .inl (cM, 1024, .inr (.inr (.inr (.inr o_3))))), (aY, .inl (cY, 1024, .inl xw)), (aV, .inr (6, [.ref aC, .ref aP, .ref aO, .int vn, .int vd])), (aC, .inl (cC, 512, .inr (.inl vc))), (aP, .inl (cP, 512, .inl vp)), (aO, .inl (cO, 512, .inl vo)), (aL, .inr (1, [.ref aB, .int ln])), (aB, .inl (cB, 1024, .inl lb)), (aT, .inr (2, [.ref aK, .ref aG, .ref aE, .ref aW, .int tn, .int ts])), (aK, .inl (cK, 1024, .inl tk)), (aG, .inl (cG, 1024, .inl tb)), (aE, .inl (cE, 1024, .inl te)), (aW, .inl (cW, 1024, .inr (.inl tw))), (aN, .inr (4, [.ref aQ, .int kn, .int kp])), (aQ, .inl (cQ, 256, .inr (.inr (.inr (.inr kq)))))]) [6, 7, 0, 1, 2, 3, 4, 8, 9, 10, 11, 12, 13, 5, 14, 15] rfl
        have hD9 := hD.part (cx := [(aX, .inr (5, [.ref aM, .ref aY, .int xn, .ref aV])), (aM, .inl (cM, 1024, .inr (.inr (.inr (.inr o_3))))), (aY, .inl (cY, 1024, .inl xw)), (aV, .inr (6, [.ref aC, .ref aP, .ref aO, .int vn, .int vd])), (aC, .inl (cC, 512, .inr (.inl vc))), (aP, .inl (cP, 512, .inl vp)), (aO, .inl (cO, 512, .inl vo)), (aL, .inr (1, [.ref aB, .int ln])), (aB, .inl (cB, 1024, .inl lb)), (aT, .inr (2, [.ref aK, .ref aG, .ref aE, .ref aW, .int tn, .int ts])), (aK, .inl (cK, 1024, .inl tk)), (aG, .inl (cG, 1024, .inl tb)), (aE, .inl (cE, 1024, .inl te)), (aW, .inl (cW, 1024, .inr (.inl tw))), (aN, .inr (4, [.ref aQ, .int kn, .int kp])), (aQ, .inl (cQ, 256, .inr (.inr (.inr (.inr kq)))))]) [6, 7, 0, 1, 2, 3, 4, 8, 9, 10, 11, 12, 13, 5, 14, 15] (by decide) rfl
        exact W.iret (v := (3 : Int32)) hx hb hr (fun t ht hW => ⟨⟨(3 : Int32), (), rfl, rfl, by rw [ht]; exact hP9, va_K.moved hW.alike hK, hD9⟩, hS.F ht⟩) hS.2.2 d_X_findFault_37
    · rw [if_pos c_5] at hf
      refine lv_iconst (v := (2 : Int32)) hx hb d_X_findFault_26 (by decide) ?_
      have ho := Option.some.inj hf
      subst o
      have hP9 := hP.part (cx := [(aX, .inr (5, [.ref aM, .ref aY, .int xn, .ref aV])), (aM, .inl (cM, 1024, .inr (.inr (.inr (.inr o_3))))), (aY, .inl (cY, 1024, .inl xw)), (aV, .inr (6, [.ref aC, .ref aP, .ref aO, .int vn, .int vd])), (aC, .inl (cC, 512, .inr (.inl vc))), (aP, .inl (cP, 512, .inl vp)), (aO, .inl (cO, 512, .inl vo)), (aL, .inr (1, [.ref aB, .int ln])), (aB, .inl (cB, 1024, .inl lb)), (aT, .inr (2, [.ref aK, .ref aG, .ref aE, .ref aW, .int tn, .int ts])), (aK, .inl (cK, 1024, .inl tk)), (aG, .inl (cG, 1024, .inl tb)), (aE, .inl (cE, 1024, .inl te)), (aW, .inl (cW, 1024, .inr (.inl tw))), (aN, .inr (4, [.ref aQ, .int kn, .int kp])), (aQ, .inl (cQ, 256, .inr (.inr (.inr (.inr kq)))))]) [6, 7, 0, 1, 2, 3, 4, 8, 9, 10, 11, 12, 13, 5, 14, 15] rfl
      have hD9 := hD.part (cx := [(aX, .inr (5, [.ref aM, .ref aY, .int xn, .ref aV])), (aM, .inl (cM, 1024, .inr (.inr (.inr (.inr o_3))))), (aY, .inl (cY, 1024, .inl xw)), (aV, .inr (6, [.ref aC, .ref aP, .ref aO, .int vn, .int vd])), (aC, .inl (cC, 512, .inr (.inl vc))), (aP, .inl (cP, 512, .inl vp)), (aO, .inl (cO, 512, .inl vo)), (aL, .inr (1, [.ref aB, .int ln])), (aB, .inl (cB, 1024, .inl lb)), (aT, .inr (2, [.ref aK, .ref aG, .ref aE, .ref aW, .int tn, .int ts])), (aK, .inl (cK, 1024, .inl tk)), (aG, .inl (cG, 1024, .inl tb)), (aE, .inl (cE, 1024, .inl te)), (aW, .inl (cW, 1024, .inr (.inl tw))), (aN, .inr (4, [.ref aQ, .int kn, .int kp])), (aQ, .inl (cQ, 256, .inr (.inr (.inr (.inr kq)))))]) [6, 7, 0, 1, 2, 3, 4, 8, 9, 10, 11, 12, 13, 5, 14, 15] (by decide) rfl
      exact W.iret (v := (2 : Int32)) hx hb hr (fun t ht hW => ⟨⟨(2 : Int32), (), rfl, rfl, by rw [ht]; exact hP9, va_K.moved hW.alike hK, hD9⟩, hS.F ht⟩) hS.2.2 d_X_findFault_27
  · rw [if_pos c_2] at hf
    refine lv_iconst (v := (1 : Int32)) hx hb d_X_findFault_7 (by decide) ?_
    have ho := Option.some.inj hf
    subst o
    have hP9 := hP.part (cx := [(aX, .inr (5, [.ref aM, .ref aY, .int xn, .ref aV])), (aM, .inl (cM, 1024, .inr (.inr (.inr (.inr xm))))), (aY, .inl (cY, 1024, .inl xw)), (aV, .inr (6, [.ref aC, .ref aP, .ref aO, .int vn, .int vd])), (aC, .inl (cC, 512, .inr (.inl vc))), (aP, .inl (cP, 512, .inl vp)), (aO, .inl (cO, 512, .inl vo)), (aL, .inr (1, [.ref aB, .int ln])), (aB, .inl (cB, 1024, .inl lb)), (aT, .inr (2, [.ref aK, .ref aG, .ref aE, .ref aW, .int tn, .int ts])), (aK, .inl (cK, 1024, .inl tk)), (aG, .inl (cG, 1024, .inl tb)), (aE, .inl (cE, 1024, .inl te)), (aW, .inl (cW, 1024, .inr (.inl tw))), (aN, .inr (4, [.ref aQ, .int kn, .int kp])), (aQ, .inl (cQ, 256, .inr (.inr (.inr (.inr kq)))))]) [0, 1, 2, 3, 4, 5, 6, 7, 8, 9, 10, 11, 12, 13, 14, 15] rfl
    have hD9 := hD.part (cx := [(aX, .inr (5, [.ref aM, .ref aY, .int xn, .ref aV])), (aM, .inl (cM, 1024, .inr (.inr (.inr (.inr xm))))), (aY, .inl (cY, 1024, .inl xw)), (aV, .inr (6, [.ref aC, .ref aP, .ref aO, .int vn, .int vd])), (aC, .inl (cC, 512, .inr (.inl vc))), (aP, .inl (cP, 512, .inl vp)), (aO, .inl (cO, 512, .inl vo)), (aL, .inr (1, [.ref aB, .int ln])), (aB, .inl (cB, 1024, .inl lb)), (aT, .inr (2, [.ref aK, .ref aG, .ref aE, .ref aW, .int tn, .int ts])), (aK, .inl (cK, 1024, .inl tk)), (aG, .inl (cG, 1024, .inl tb)), (aE, .inl (cE, 1024, .inl te)), (aW, .inl (cW, 1024, .inr (.inl tw))), (aN, .inr (4, [.ref aQ, .int kn, .int kp])), (aQ, .inl (cQ, 256, .inr (.inr (.inr (.inr kq)))))]) [0, 1, 2, 3, 4, 5, 6, 7, 8, 9, 10, 11, 12, 13, 14, 15] (by decide) rfl
    exact W.iret (v := (1 : Int32)) hx hb hr (fun t ht hW => ⟨⟨(1 : Int32), (), rfl, rfl, by rw [ht]; exact hP9, va_K.moved hW.alike hK, hD9⟩, hS.F ht⟩) hS.2.2 d_X_findFault_8
