theorem d_V_clear_0 : decode b_V_clear 0 = .ok (.aload_n 0, 1) := by decide +kernel
theorem d_V_clear_1 : decode b_V_clear 1 = .ok (.iconst 0, 1) := by decide +kernel
theorem d_V_clear_2 : decode b_V_clear 2 = .ok (.putfield 22, 3) := by decide +kernel
theorem d_V_clear_5 : decode b_V_clear 5 = .ok (.aload_n 0, 1) := by decide +kernel
theorem d_V_clear_6 : decode b_V_clear 6 = .ok (.iconst 0, 1) := by decide +kernel
theorem d_V_clear_7 : decode b_V_clear 7 = .ok (.putfield 26, 3) := by decide +kernel
theorem d_V_clear_10 : decode b_V_clear 10 = .ok (.return_, 1) := by decide +kernel
theorem d_V_areOdd_0 : decode b_V_areOdd 0 = .ok (.aload_n 0, 1) := by decide +kernel
theorem d_V_areOdd_1 : decode b_V_areOdd 1 = .ok (.getfield 26, 3) := by decide +kernel
theorem d_V_areOdd_4 : decode b_V_areOdd 4 = .ok (.ireturn, 1) := by decide +kernel
theorem d_V_constantOfFirst_0 : decode b_V_constantOfFirst 0 = .ok (.aload_n 0, 1) := by decide +kernel
theorem d_V_constantOfFirst_1 : decode b_V_constantOfFirst 1 = .ok (.getfield 11, 3) := by decide +kernel
theorem d_V_constantOfFirst_4 : decode b_V_constantOfFirst 4 = .ok (.iconst 0, 1) := by decide +kernel
theorem d_V_constantOfFirst_5 : decode b_V_constantOfFirst 5 = .ok (.laload, 1) := by decide +kernel
theorem d_V_constantOfFirst_6 : decode b_V_constantOfFirst 6 = .ok (.lreturn, 1) := by decide +kernel
theorem d_V_placeOfFirst_0 : decode b_V_placeOfFirst 0 = .ok (.aload_n 0, 1) := by decide +kernel
theorem d_V_placeOfFirst_1 : decode b_V_placeOfFirst 1 = .ok (.getfield 15, 3) := by decide +kernel
theorem d_V_placeOfFirst_4 : decode b_V_placeOfFirst 4 = .ok (.iconst 0, 1) := by decide +kernel
theorem d_V_placeOfFirst_5 : decode b_V_placeOfFirst 5 = .ok (.iaload, 1) := by decide +kernel
theorem d_V_placeOfFirst_6 : decode b_V_placeOfFirst 6 = .ok (.ireturn, 1) := by decide +kernel
theorem d_V_takenOffOfFirst_0 : decode b_V_takenOffOfFirst 0 = .ok (.aload_n 0, 1) := by decide +kernel
theorem d_V_takenOffOfFirst_1 : decode b_V_takenOffOfFirst 1 = .ok (.getfield 19, 3) := by decide +kernel
theorem d_V_takenOffOfFirst_4 : decode b_V_takenOffOfFirst 4 = .ok (.iconst 0, 1) := by decide +kernel
theorem d_V_takenOffOfFirst_5 : decode b_V_takenOffOfFirst 5 = .ok (.iaload, 1) := by decide +kernel
theorem d_V_takenOffOfFirst_6 : decode b_V_takenOffOfFirst 6 = .ok (.ireturn, 1) := by decide +kernel
theorem d_V_push_0 : decode b_V_push 0 = .ok (.aload_n 0, 1) := by decide +kernel
theorem d_V_push_1 : decode b_V_push 1 = .ok (.getfield 22, 3) := by decide +kernel
theorem d_V_push_4 : decode b_V_push 4 = .ok (.sipush 512, 3) := by decide +kernel
theorem d_V_push_7 : decode b_V_push 7 = .ok (.if_icmp .ge 43, 3) := by decide +kernel
theorem d_V_push_10 : decode b_V_push 10 = .ok (.aload_n 0, 1) := by decide +kernel
theorem d_V_push_11 : decode b_V_push 11 = .ok (.getfield 11, 3) := by decide +kernel
theorem d_V_push_14 : decode b_V_push 14 = .ok (.aload_n 0, 1) := by decide +kernel
theorem d_V_push_15 : decode b_V_push 15 = .ok (.getfield 22, 3) := by decide +kernel
theorem d_V_push_18 : decode b_V_push 18 = .ok (.lload_n 1, 1) := by decide +kernel
theorem d_V_push_19 : decode b_V_push 19 = .ok (.lastore, 1) := by decide +kernel
theorem d_V_push_20 : decode b_V_push 20 = .ok (.aload_n 0, 1) := by decide +kernel
theorem d_V_push_21 : decode b_V_push 21 = .ok (.getfield 15, 3) := by decide +kernel
theorem d_V_push_24 : decode b_V_push 24 = .ok (.aload_n 0, 1) := by decide +kernel
theorem d_V_push_25 : decode b_V_push 25 = .ok (.getfield 22, 3) := by decide +kernel
theorem d_V_push_28 : decode b_V_push 28 = .ok (.iload_n 3, 1) := by decide +kernel
theorem d_V_push_29 : decode b_V_push 29 = .ok (.iastore, 1) := by decide +kernel
theorem d_V_push_30 : decode b_V_push 30 = .ok (.aload_n 0, 1) := by decide +kernel
theorem d_V_push_31 : decode b_V_push 31 = .ok (.getfield 19, 3) := by decide +kernel
theorem d_V_push_34 : decode b_V_push 34 = .ok (.aload_n 0, 1) := by decide +kernel
theorem d_V_push_35 : decode b_V_push 35 = .ok (.getfield 22, 3) := by decide +kernel
theorem d_V_push_38 : decode b_V_push 38 = .ok (.iconst (-1), 1) := by decide +kernel
theorem d_V_push_39 : decode b_V_push 39 = .ok (.iastore, 1) := by decide +kernel
theorem d_V_push_40 : decode b_V_push 40 = .ok (.aload_n 0, 1) := by decide +kernel
theorem d_V_push_41 : decode b_V_push 41 = .ok (.dup, 1) := by decide +kernel
theorem d_V_push_42 : decode b_V_push 42 = .ok (.getfield 22, 3) := by decide +kernel
theorem d_V_push_45 : decode b_V_push 45 = .ok (.iconst 1, 1) := by decide +kernel
theorem d_V_push_46 : decode b_V_push 46 = .ok (.iadd, 1) := by decide +kernel
theorem d_V_push_47 : decode b_V_push 47 = .ok (.putfield 22, 3) := by decide +kernel
theorem d_V_push_50 : decode b_V_push 50 = .ok (.return_, 1) := by decide +kernel
theorem d_V_isConstant_0 : decode b_V_isConstant 0 = .ok (.aload_n 0, 1) := by decide +kernel
theorem d_V_isConstant_1 : decode b_V_isConstant 1 = .ok (.getfield 15, 3) := by decide +kernel
theorem d_V_isConstant_4 : decode b_V_isConstant 4 = .ok (.iload_n 1, 1) := by decide +kernel
theorem d_V_isConstant_5 : decode b_V_isConstant 5 = .ok (.iaload, 1) := by decide +kernel
theorem d_V_isConstant_6 : decode b_V_isConstant 6 = .ok (.iconst (-1), 1) := by decide +kernel
theorem d_V_isConstant_7 : decode b_V_isConstant 7 = .ok (.if_icmp .ne 7, 3) := by decide +kernel
theorem d_V_isConstant_10 : decode b_V_isConstant 10 = .ok (.iconst 1, 1) := by decide +kernel
theorem d_V_isConstant_11 : decode b_V_isConstant 11 = .ok (.goto 4, 3) := by decide +kernel
theorem d_V_isConstant_14 : decode b_V_isConstant 14 = .ok (.iconst 0, 1) := by decide +kernel
theorem d_V_isConstant_15 : decode b_V_isConstant 15 = .ok (.ireturn, 1) := by decide +kernel
theorem d_V_isPlace_0 : decode b_V_isPlace 0 = .ok (.aload_n 0, 1) := by decide +kernel
theorem d_V_isPlace_1 : decode b_V_isPlace 1 = .ok (.getfield 15, 3) := by decide +kernel
theorem d_V_isPlace_4 : decode b_V_isPlace 4 = .ok (.iload_n 1, 1) := by decide +kernel
theorem d_V_isPlace_5 : decode b_V_isPlace 5 = .ok (.iaload, 1) := by decide +kernel
theorem d_V_isPlace_6 : decode b_V_isPlace 6 = .ok (.iconst (-1), 1) := by decide +kernel
theorem d_V_isPlace_7 : decode b_V_isPlace 7 = .ok (.if_icmp .eq 17, 3) := by decide +kernel
theorem d_V_isPlace_10 : decode b_V_isPlace 10 = .ok (.aload_n 0, 1) := by decide +kernel
theorem d_V_isPlace_11 : decode b_V_isPlace 11 = .ok (.getfield 19, 3) := by decide +kernel
theorem d_V_isPlace_14 : decode b_V_isPlace 14 = .ok (.iload_n 1, 1) := by decide +kernel
theorem d_V_isPlace_15 : decode b_V_isPlace 15 = .ok (.iaload, 1) := by decide +kernel
theorem d_V_isPlace_16 : decode b_V_isPlace 16 = .ok (.iconst (-1), 1) := by decide +kernel
theorem d_V_isPlace_17 : decode b_V_isPlace 17 = .ok (.if_icmp .ne 7, 3) := by decide +kernel
theorem d_V_isPlace_20 : decode b_V_isPlace 20 = .ok (.iconst 1, 1) := by decide +kernel
theorem d_V_isPlace_21 : decode b_V_isPlace 21 = .ok (.goto 4, 3) := by decide +kernel
theorem d_V_isPlace_24 : decode b_V_isPlace 24 = .ok (.iconst 0, 1) := by decide +kernel
theorem d_V_isPlace_25 : decode b_V_isPlace 25 = .ok (.ireturn, 1) := by decide +kernel
theorem d_V_applyInFront_0 : decode b_V_applyInFront 0 = .ok (.aload_n 0, 1) := by decide +kernel
theorem d_V_applyInFront_1 : decode b_V_applyInFront 1 = .ok (.getfield 22, 3) := by decide +kernel
theorem d_V_applyInFront_4 : decode b_V_applyInFront 4 = .ok (.iconst 1, 1) := by decide +kernel
theorem d_V_applyInFront_5 : decode b_V_applyInFront 5 = .ok (.isub, 1) := by decide +kernel
theorem d_V_applyInFront_6 : decode b_V_applyInFront 6 = .ok (.istore_n 2, 1) := by decide +kernel
theorem d_V_applyInFront_7 : decode b_V_applyInFront 7 = .ok (.iload_n 1, 1) := by decide +kernel
theorem d_V_applyInFront_8 : decode b_V_applyInFront 8 = .ok (.bipush 43, 2) := by decide +kernel
theorem d_V_applyInFront_10 : decode b_V_applyInFront 10 = .ok (.if_icmp .eq 7, 3) := by decide +kernel
theorem d_V_applyInFront_13 : decode b_V_applyInFront 13 = .ok (.iload_n 2, 1) := by decide +kernel
theorem d_V_applyInFront_14 : decode b_V_applyInFront 14 = .ok (.ifCond .ge 4, 3) := by decide +kernel
theorem d_V_applyInFront_17 : decode b_V_applyInFront 17 = .ok (.return_, 1) := by decide +kernel
theorem d_V_applyInFront_18 : decode b_V_applyInFront 18 = .ok (.aload_n 0, 1) := by decide +kernel
theorem d_V_applyInFront_19 : decode b_V_applyInFront 19 = .ok (.iload_n 2, 1) := by decide +kernel
theorem d_V_applyInFront_20 : decode b_V_applyInFront 20 = .ok (.invokevirtual 30, 3) := by decide +kernel
theorem d_V_applyInFront_23 : decode b_V_applyInFront 23 = .ok (.ifCond .ne 8, 3) := by decide +kernel
theorem d_V_applyInFront_26 : decode b_V_applyInFront 26 = .ok (.aload_n 0, 1) := by decide +kernel
theorem d_V_applyInFront_27 : decode b_V_applyInFront 27 = .ok (.iconst 1, 1) := by decide +kernel
theorem d_V_applyInFront_28 : decode b_V_applyInFront 28 = .ok (.putfield 26, 3) := by decide +kernel
theorem d_V_applyInFront_31 : decode b_V_applyInFront 31 = .ok (.aload_n 0, 1) := by decide +kernel
theorem d_V_applyInFront_32 : decode b_V_applyInFront 32 = .ok (.getfield 11, 3) := by decide +kernel
theorem d_V_applyInFront_35 : decode b_V_applyInFront 35 = .ok (.iload_n 2, 1) := by decide +kernel
theorem d_V_applyInFront_36 : decode b_V_applyInFront 36 = .ok (.iload_n 1, 1) := by decide +kernel
theorem d_V_applyInFront_37 : decode b_V_applyInFront 37 = .ok (.bipush 45, 2) := by decide +kernel
theorem d_V_applyInFront_39 : decode b_V_applyInFront 39 = .ok (.if_icmp .ne 13, 3) := by decide +kernel
theorem d_V_applyInFront_42 : decode b_V_applyInFront 42 = .ok (.aload_n 0, 1) := by decide +kernel
theorem d_V_applyInFront_43 : decode b_V_applyInFront 43 = .ok (.getfield 11, 3) := by decide +kernel
theorem d_V_applyInFront_46 : decode b_V_applyInFront 46 = .ok (.iload_n 2, 1) := by decide +kernel
theorem d_V_applyInFront_47 : decode b_V_applyInFront 47 = .ok (.laload, 1) := by decide +kernel
theorem d_V_applyInFront_48 : decode b_V_applyInFront 48 = .ok (.lneg, 1) := by decide +kernel
theorem d_V_applyInFront_49 : decode b_V_applyInFront 49 = .ok (.goto 13, 3) := by decide +kernel
theorem d_V_applyInFront_52 : decode b_V_applyInFront 52 = .ok (.aload_n 0, 1) := by decide +kernel
theorem d_V_applyInFront_53 : decode b_V_applyInFront 53 = .ok (.getfield 11, 3) := by decide +kernel
theorem d_V_applyInFront_56 : decode b_V_applyInFront 56 = .ok (.iload_n 2, 1) := by decide +kernel
theorem d_V_applyInFront_57 : decode b_V_applyInFront 57 = .ok (.laload, 1) := by decide +kernel
theorem d_V_applyInFront_58 : decode b_V_applyInFront 58 = .ok (.ldc2_w 34, 3) := by decide +kernel
theorem d_V_applyInFront_61 : decode b_V_applyInFront 61 = .ok (.lxor, 1) := by decide +kernel
theorem d_V_applyInFront_62 : decode b_V_applyInFront 62 = .ok (.lastore, 1) := by decide +kernel
theorem d_V_applyInFront_63 : decode b_V_applyInFront 63 = .ok (.return_, 1) := by decide +kernel
theorem d_V_add_0 : decode b_V_add 0 = .ok (.aload_n 0, 1) := by decide +kernel
theorem d_V_add_1 : decode b_V_add 1 = .ok (.iload_n 1, 1) := by decide +kernel
theorem d_V_add_2 : decode b_V_add 2 = .ok (.invokevirtual 30, 3) := by decide +kernel
theorem d_V_add_5 : decode b_V_add 5 = .ok (.ifCond .eq 30, 3) := by decide +kernel
theorem d_V_add_8 : decode b_V_add 8 = .ok (.aload_n 0, 1) := by decide +kernel
theorem d_V_add_9 : decode b_V_add 9 = .ok (.getfield 15, 3) := by decide +kernel
theorem d_V_add_12 : decode b_V_add 12 = .ok (.iload_n 1, 1) := by decide +kernel
theorem d_V_add_13 : decode b_V_add 13 = .ok (.aload_n 0, 1) := by decide +kernel
theorem d_V_add_14 : decode b_V_add 14 = .ok (.getfield 15, 3) := by decide +kernel
theorem d_V_add_17 : decode b_V_add 17 = .ok (.iload_n 2, 1) := by decide +kernel
theorem d_V_add_18 : decode b_V_add 18 = .ok (.iaload, 1) := by decide +kernel
theorem d_V_add_19 : decode b_V_add 19 = .ok (.iastore, 1) := by decide +kernel
theorem d_V_add_20 : decode b_V_add 20 = .ok (.aload_n 0, 1) := by decide +kernel
theorem d_V_add_21 : decode b_V_add 21 = .ok (.getfield 19, 3) := by decide +kernel
theorem d_V_add_24 : decode b_V_add 24 = .ok (.iload_n 1, 1) := by decide +kernel
theorem d_V_add_25 : decode b_V_add 25 = .ok (.aload_n 0, 1) := by decide +kernel
theorem d_V_add_26 : decode b_V_add 26 = .ok (.getfield 19, 3) := by decide +kernel
theorem d_V_add_29 : decode b_V_add 29 = .ok (.iload_n 2, 1) := by decide +kernel
theorem d_V_add_30 : decode b_V_add 30 = .ok (.iaload, 1) := by decide +kernel
theorem d_V_add_31 : decode b_V_add 31 = .ok (.iastore, 1) := by decide +kernel
theorem d_V_add_32 : decode b_V_add 32 = .ok (.goto 16, 3) := by decide +kernel
theorem d_V_add_35 : decode b_V_add 35 = .ok (.aload_n 0, 1) := by decide +kernel
theorem d_V_add_36 : decode b_V_add 36 = .ok (.iload_n 2, 1) := by decide +kernel
theorem d_V_add_37 : decode b_V_add 37 = .ok (.invokevirtual 30, 3) := by decide +kernel
theorem d_V_add_40 : decode b_V_add 40 = .ok (.ifCond .ne 8, 3) := by decide +kernel
theorem d_V_add_43 : decode b_V_add 43 = .ok (.aload_n 0, 1) := by decide +kernel
theorem d_V_add_44 : decode b_V_add 44 = .ok (.iconst 1, 1) := by decide +kernel
theorem d_V_add_45 : decode b_V_add 45 = .ok (.putfield 26, 3) := by decide +kernel
theorem d_V_add_48 : decode b_V_add 48 = .ok (.aload_n 0, 1) := by decide +kernel
theorem d_V_add_49 : decode b_V_add 49 = .ok (.getfield 11, 3) := by decide +kernel
theorem d_V_add_52 : decode b_V_add 52 = .ok (.iload_n 1, 1) := by decide +kernel
theorem d_V_add_53 : decode b_V_add 53 = .ok (.dup2, 1) := by decide +kernel
theorem d_V_add_54 : decode b_V_add 54 = .ok (.laload, 1) := by decide +kernel
theorem d_V_add_55 : decode b_V_add 55 = .ok (.aload_n 0, 1) := by decide +kernel
theorem d_V_add_56 : decode b_V_add 56 = .ok (.getfield 11, 3) := by decide +kernel
theorem d_V_add_59 : decode b_V_add 59 = .ok (.iload_n 2, 1) := by decide +kernel
theorem d_V_add_60 : decode b_V_add 60 = .ok (.laload, 1) := by decide +kernel
theorem d_V_add_61 : decode b_V_add 61 = .ok (.ladd, 1) := by decide +kernel
theorem d_V_add_62 : decode b_V_add 62 = .ok (.lastore, 1) := by decide +kernel
theorem d_V_add_63 : decode b_V_add 63 = .ok (.return_, 1) := by decide +kernel
theorem d_V_takeOff_0 : decode b_V_takeOff 0 = .ok (.aload_n 0, 1) := by decide +kernel
theorem d_V_takeOff_1 : decode b_V_takeOff 1 = .ok (.iload_n 1, 1) := by decide +kernel
theorem d_V_takeOff_2 : decode b_V_takeOff 2 = .ok (.invokevirtual 47, 3) := by decide +kernel
theorem d_V_takeOff_5 : decode b_V_takeOff 5 = .ok (.ifCond .eq 26, 3) := by decide +kernel
theorem d_V_takeOff_8 : decode b_V_takeOff 8 = .ok (.aload_n 0, 1) := by decide +kernel
theorem d_V_takeOff_9 : decode b_V_takeOff 9 = .ok (.iload_n 2, 1) := by decide +kernel
theorem d_V_takeOff_10 : decode b_V_takeOff 10 = .ok (.invokevirtual 47, 3) := by decide +kernel
theorem d_V_takeOff_13 : decode b_V_takeOff 13 = .ok (.ifCond .eq 18, 3) := by decide +kernel
theorem d_V_takeOff_16 : decode b_V_takeOff 16 = .ok (.aload_n 0, 1) := by decide +kernel
theorem d_V_takeOff_17 : decode b_V_takeOff 17 = .ok (.getfield 19, 3) := by decide +kernel
theorem d_V_takeOff_20 : decode b_V_takeOff 20 = .ok (.iload_n 1, 1) := by decide +kernel
theorem d_V_takeOff_21 : decode b_V_takeOff 21 = .ok (.aload_n 0, 1) := by decide +kernel
theorem d_V_takeOff_22 : decode b_V_takeOff 22 = .ok (.getfield 15, 3) := by decide +kernel
theorem d_V_takeOff_25 : decode b_V_takeOff 25 = .ok (.iload_n 2, 1) := by decide +kernel
theorem d_V_takeOff_26 : decode b_V_takeOff 26 = .ok (.iaload, 1) := by decide +kernel
theorem d_V_takeOff_27 : decode b_V_takeOff 27 = .ok (.iastore, 1) := by decide +kernel
theorem d_V_takeOff_28 : decode b_V_takeOff 28 = .ok (.goto 16, 3) := by decide +kernel
theorem d_V_takeOff_31 : decode b_V_takeOff 31 = .ok (.aload_n 0, 1) := by decide +kernel
theorem d_V_takeOff_32 : decode b_V_takeOff 32 = .ok (.iload_n 2, 1) := by decide +kernel
theorem d_V_takeOff_33 : decode b_V_takeOff 33 = .ok (.invokevirtual 30, 3) := by decide +kernel
theorem d_V_takeOff_36 : decode b_V_takeOff 36 = .ok (.ifCond .ne 8, 3) := by decide +kernel
theorem d_V_takeOff_39 : decode b_V_takeOff 39 = .ok (.aload_n 0, 1) := by decide +kernel
theorem d_V_takeOff_40 : decode b_V_takeOff 40 = .ok (.iconst 1, 1) := by decide +kernel
theorem d_V_takeOff_41 : decode b_V_takeOff 41 = .ok (.putfield 26, 3) := by decide +kernel
theorem d_V_takeOff_44 : decode b_V_takeOff 44 = .ok (.aload_n 0, 1) := by decide +kernel
theorem d_V_takeOff_45 : decode b_V_takeOff 45 = .ok (.getfield 11, 3) := by decide +kernel
theorem d_V_takeOff_48 : decode b_V_takeOff 48 = .ok (.iload_n 1, 1) := by decide +kernel
theorem d_V_takeOff_49 : decode b_V_takeOff 49 = .ok (.dup2, 1) := by decide +kernel
theorem d_V_takeOff_50 : decode b_V_takeOff 50 = .ok (.laload, 1) := by decide +kernel
theorem d_V_takeOff_51 : decode b_V_takeOff 51 = .ok (.aload_n 0, 1) := by decide +kernel
theorem d_V_takeOff_52 : decode b_V_takeOff 52 = .ok (.getfield 11, 3) := by decide +kernel
theorem d_V_takeOff_55 : decode b_V_takeOff 55 = .ok (.iload_n 2, 1) := by decide +kernel
theorem d_V_takeOff_56 : decode b_V_takeOff 56 = .ok (.laload, 1) := by decide +kernel
theorem d_V_takeOff_57 : decode b_V_takeOff 57 = .ok (.lsub, 1) := by decide +kernel
theorem d_V_takeOff_58 : decode b_V_takeOff 58 = .ok (.lastore, 1) := by decide +kernel
theorem d_V_takeOff_59 : decode b_V_takeOff 59 = .ok (.return_, 1) := by decide +kernel
theorem d_V_divide_0 : decode b_V_divide 0 = .ok (.lload 4, 2) := by decide +kernel
theorem d_V_divide_2 : decode b_V_divide 2 = .ok (.lconst 0, 1) := by decide +kernel
theorem d_V_divide_3 : decode b_V_divide 3 = .ok (.lcmp, 1) := by decide +kernel
theorem d_V_divide_4 : decode b_V_divide 4 = .ok (.ifCond .ne 10, 3) := by decide +kernel
theorem d_V_divide_7 : decode b_V_divide 7 = .ok (.aload_n 0, 1) := by decide +kernel
theorem d_V_divide_8 : decode b_V_divide 8 = .ok (.iconst 1, 1) := by decide +kernel
theorem d_V_divide_9 : decode b_V_divide 9 = .ok (.putfield 26, 3) := by decide +kernel
theorem d_V_divide_12 : decode b_V_divide 12 = .ok (.lconst 0, 1) := by decide +kernel
theorem d_V_divide_13 : decode b_V_divide 13 = .ok (.lreturn, 1) := by decide +kernel
theorem d_V_divide_14 : decode b_V_divide 14 = .ok (.iload_n 1, 1) := by decide +kernel
theorem d_V_divide_15 : decode b_V_divide 15 = .ok (.bipush 47, 2) := by decide +kernel
theorem d_V_divide_17 : decode b_V_divide 17 = .ok (.if_icmp .ne 10, 3) := by decide +kernel
theorem d_V_divide_20 : decode b_V_divide 20 = .ok (.lload_n 2, 1) := by decide +kernel
theorem d_V_divide_21 : decode b_V_divide 21 = .ok (.lload 4, 2) := by decide +kernel
theorem d_V_divide_23 : decode b_V_divide 23 = .ok (.ldiv, 1) := by decide +kernel
theorem d_V_divide_24 : decode b_V_divide 24 = .ok (.goto 7, 3) := by decide +kernel
theorem d_V_divide_27 : decode b_V_divide 27 = .ok (.lload_n 2, 1) := by decide +kernel
theorem d_V_divide_28 : decode b_V_divide 28 = .ok (.lload 4, 2) := by decide +kernel
theorem d_V_divide_30 : decode b_V_divide 30 = .ok (.lrem, 1) := by decide +kernel
theorem d_V_divide_31 : decode b_V_divide 31 = .ok (.lreturn, 1) := by decide +kernel
theorem d_V_combine_0 : decode b_V_combine 0 = .ok (.iload_n 1, 1) := by decide +kernel
theorem d_V_combine_1 : decode b_V_combine 1 = .ok (.lookupswitch 99 #[(38, 69), (42, 94), (60, 74), (62, 84), (94, 64), (124, 59)], 59) := by decide +kernel
theorem d_V_combine_60 : decode b_V_combine 60 = .ok (.lload_n 2, 1) := by decide +kernel
theorem d_V_combine_61 : decode b_V_combine 61 = .ok (.lload 4, 2) := by decide +kernel
theorem d_V_combine_63 : decode b_V_combine 63 = .ok (.lor, 1) := by decide +kernel
theorem d_V_combine_64 : decode b_V_combine 64 = .ok (.lreturn, 1) := by decide +kernel
theorem d_V_combine_65 : decode b_V_combine 65 = .ok (.lload_n 2, 1) := by decide +kernel
theorem d_V_combine_66 : decode b_V_combine 66 = .ok (.lload 4, 2) := by decide +kernel
theorem d_V_combine_68 : decode b_V_combine 68 = .ok (.lxor, 1) := by decide +kernel
theorem d_V_combine_69 : decode b_V_combine 69 = .ok (.lreturn, 1) := by decide +kernel
theorem d_V_combine_70 : decode b_V_combine 70 = .ok (.lload_n 2, 1) := by decide +kernel
theorem d_V_combine_71 : decode b_V_combine 71 = .ok (.lload 4, 2) := by decide +kernel
theorem d_V_combine_73 : decode b_V_combine 73 = .ok (.land, 1) := by decide +kernel
theorem d_V_combine_74 : decode b_V_combine 74 = .ok (.lreturn, 1) := by decide +kernel
theorem d_V_combine_75 : decode b_V_combine 75 = .ok (.lload_n 2, 1) := by decide +kernel
theorem d_V_combine_76 : decode b_V_combine 76 = .ok (.lload 4, 2) := by decide +kernel
theorem d_V_combine_78 : decode b_V_combine 78 = .ok (.ldc2_w 50, 3) := by decide +kernel
theorem d_V_combine_81 : decode b_V_combine 81 = .ok (.land, 1) := by decide +kernel
theorem d_V_combine_82 : decode b_V_combine 82 = .ok (.l2i, 1) := by decide +kernel
theorem d_V_combine_83 : decode b_V_combine 83 = .ok (.lshl, 1) := by decide +kernel
theorem d_V_combine_84 : decode b_V_combine 84 = .ok (.lreturn, 1) := by decide +kernel
theorem d_V_combine_85 : decode b_V_combine 85 = .ok (.lload_n 2, 1) := by decide +kernel
theorem d_V_combine_86 : decode b_V_combine 86 = .ok (.lload 4, 2) := by decide +kernel
theorem d_V_combine_88 : decode b_V_combine 88 = .ok (.ldc2_w 50, 3) := by decide +kernel
theorem d_V_combine_91 : decode b_V_combine 91 = .ok (.land, 1) := by decide +kernel
theorem d_V_combine_92 : decode b_V_combine 92 = .ok (.l2i, 1) := by decide +kernel
theorem d_V_combine_93 : decode b_V_combine 93 = .ok (.lushr, 1) := by decide +kernel
theorem d_V_combine_94 : decode b_V_combine 94 = .ok (.lreturn, 1) := by decide +kernel
theorem d_V_combine_95 : decode b_V_combine 95 = .ok (.lload_n 2, 1) := by decide +kernel
theorem d_V_combine_96 : decode b_V_combine 96 = .ok (.lload 4, 2) := by decide +kernel
theorem d_V_combine_98 : decode b_V_combine 98 = .ok (.lmul, 1) := by decide +kernel
theorem d_V_combine_99 : decode b_V_combine 99 = .ok (.lreturn, 1) := by decide +kernel
theorem d_V_combine_100 : decode b_V_combine 100 = .ok (.aload_n 0, 1) := by decide +kernel
theorem d_V_combine_101 : decode b_V_combine 101 = .ok (.iload_n 1, 1) := by decide +kernel
theorem d_V_combine_102 : decode b_V_combine 102 = .ok (.lload_n 2, 1) := by decide +kernel
theorem d_V_combine_103 : decode b_V_combine 103 = .ok (.lload 4, 2) := by decide +kernel
theorem d_V_combine_105 : decode b_V_combine 105 = .ok (.invokevirtual 52, 3) := by decide +kernel
theorem d_V_combine_108 : decode b_V_combine 108 = .ok (.lreturn, 1) := by decide +kernel
theorem d_V_applyBetween_0 : decode b_V_applyBetween 0 = .ok (.aload_n 0, 1) := by decide +kernel
theorem d_V_applyBetween_1 : decode b_V_applyBetween 1 = .ok (.getfield 22, 3) := by decide +kernel
theorem d_V_applyBetween_4 : decode b_V_applyBetween 4 = .ok (.iconst 1, 1) := by decide +kernel
theorem d_V_applyBetween_5 : decode b_V_applyBetween 5 = .ok (.isub, 1) := by decide +kernel
theorem d_V_applyBetween_6 : decode b_V_applyBetween 6 = .ok (.istore_n 2, 1) := by decide +kernel
theorem d_V_applyBetween_7 : decode b_V_applyBetween 7 = .ok (.iload_n 2, 1) := by decide +kernel
theorem d_V_applyBetween_8 : decode b_V_applyBetween 8 = .ok (.iconst 1, 1) := by decide +kernel
theorem d_V_applyBetween_9 : decode b_V_applyBetween 9 = .ok (.isub, 1) := by decide +kernel
theorem d_V_applyBetween_10 : decode b_V_applyBetween 10 = .ok (.istore_n 3, 1) := by decide +kernel
theorem d_V_applyBetween_11 : decode b_V_applyBetween 11 = .ok (.iload_n 3, 1) := by decide +kernel
theorem d_V_applyBetween_12 : decode b_V_applyBetween 12 = .ok (.ifCond .ge 4, 3) := by decide +kernel
theorem d_V_applyBetween_15 : decode b_V_applyBetween 15 = .ok (.return_, 1) := by decide +kernel
theorem d_V_applyBetween_16 : decode b_V_applyBetween 16 = .ok (.iload_n 1, 1) := by decide +kernel
theorem d_V_applyBetween_17 : decode b_V_applyBetween 17 = .ok (.bipush 43, 2) := by decide +kernel
theorem d_V_applyBetween_19 : decode b_V_applyBetween 19 = .ok (.if_icmp .ne 12, 3) := by decide +kernel
theorem d_V_applyBetween_22 : decode b_V_applyBetween 22 = .ok (.aload_n 0, 1) := by decide +kernel
theorem d_V_applyBetween_23 : decode b_V_applyBetween 23 = .ok (.iload_n 3, 1) := by decide +kernel
theorem d_V_applyBetween_24 : decode b_V_applyBetween 24 = .ok (.iload_n 2, 1) := by decide +kernel
theorem d_V_applyBetween_25 : decode b_V_applyBetween 25 = .ok (.invokevirtual 36, 3) := by decide +kernel
theorem d_V_applyBetween_28 : decode b_V_applyBetween 28 = .ok (.goto 65, 3) := by decide +kernel
theorem d_V_applyBetween_31 : decode b_V_applyBetween 31 = .ok (.iload_n 1, 1) := by decide +kernel
theorem d_V_applyBetween_32 : decode b_V_applyBetween 32 = .ok (.bipush 45, 2) := by decide +kernel
theorem d_V_applyBetween_34 : decode b_V_applyBetween 34 = .ok (.if_icmp .ne 12, 3) := by decide +kernel
theorem d_V_applyBetween_37 : decode b_V_applyBetween 37 = .ok (.aload_n 0, 1) := by decide +kernel
theorem d_V_applyBetween_38 : decode b_V_applyBetween 38 = .ok (.iload_n 3, 1) := by decide +kernel
theorem d_V_applyBetween_39 : decode b_V_applyBetween 39 = .ok (.iload_n 2, 1) := by decide +kernel
theorem d_V_applyBetween_40 : decode b_V_applyBetween 40 = .ok (.invokevirtual 40, 3) := by decide +kernel
theorem d_V_applyBetween_43 : decode b_V_applyBetween 43 = .ok (.goto 50, 3) := by decide +kernel
theorem d_V_applyBetween_46 : decode b_V_applyBetween 46 = .ok (.aload_n 0, 1) := by decide +kernel
theorem d_V_applyBetween_47 : decode b_V_applyBetween 47 = .ok (.iload_n 3, 1) := by decide +kernel
theorem d_V_applyBetween_48 : decode b_V_applyBetween 48 = .ok (.invokevirtual 30, 3) := by decide +kernel
theorem d_V_applyBetween_51 : decode b_V_applyBetween 51 = .ok (.ifCond .eq 37, 3) := by decide +kernel
theorem d_V_applyBetween_54 : decode b_V_applyBetween 54 = .ok (.aload_n 0, 1) := by decide +kernel
theorem d_V_applyBetween_55 : decode b_V_applyBetween 55 = .ok (.iload_n 2, 1) := by decide +kernel
theorem d_V_applyBetween_56 : decode b_V_applyBetween 56 = .ok (.invokevirtual 30, 3) := by decide +kernel
theorem d_V_applyBetween_59 : decode b_V_applyBetween 59 = .ok (.ifCond .eq 29, 3) := by decide +kernel
theorem d_V_applyBetween_62 : decode b_V_applyBetween 62 = .ok (.aload_n 0, 1) := by decide +kernel
theorem d_V_applyBetween_63 : decode b_V_applyBetween 63 = .ok (.getfield 11, 3) := by decide +kernel
theorem d_V_applyBetween_66 : decode b_V_applyBetween 66 = .ok (.iload_n 3, 1) := by decide +kernel
theorem d_V_applyBetween_67 : decode b_V_applyBetween 67 = .ok (.aload_n 0, 1) := by decide +kernel
theorem d_V_applyBetween_68 : decode b_V_applyBetween 68 = .ok (.iload_n 1, 1) := by decide +kernel
theorem d_V_applyBetween_69 : decode b_V_applyBetween 69 = .ok (.aload_n 0, 1) := by decide +kernel
theorem d_V_applyBetween_70 : decode b_V_applyBetween 70 = .ok (.getfield 11, 3) := by decide +kernel
theorem d_V_applyBetween_73 : decode b_V_applyBetween 73 = .ok (.iload_n 3, 1) := by decide +kernel
theorem d_V_applyBetween_74 : decode b_V_applyBetween 74 = .ok (.laload, 1) := by decide +kernel
theorem d_V_applyBetween_75 : decode b_V_applyBetween 75 = .ok (.aload_n 0, 1) := by decide +kernel
theorem d_V_applyBetween_76 : decode b_V_applyBetween 76 = .ok (.getfield 11, 3) := by decide +kernel
theorem d_V_applyBetween_79 : decode b_V_applyBetween 79 = .ok (.iload_n 2, 1) := by decide +kernel
theorem d_V_applyBetween_80 : decode b_V_applyBetween 80 = .ok (.laload, 1) := by decide +kernel
theorem d_V_applyBetween_81 : decode b_V_applyBetween 81 = .ok (.invokevirtual 43, 3) := by decide +kernel
theorem d_V_applyBetween_84 : decode b_V_applyBetween 84 = .ok (.lastore, 1) := by decide +kernel
theorem d_V_applyBetween_85 : decode b_V_applyBetween 85 = .ok (.goto 8, 3) := by decide +kernel
theorem d_V_applyBetween_88 : decode b_V_applyBetween 88 = .ok (.aload_n 0, 1) := by decide +kernel
theorem d_V_applyBetween_89 : decode b_V_applyBetween 89 = .ok (.iconst 1, 1) := by decide +kernel
theorem d_V_applyBetween_90 : decode b_V_applyBetween 90 = .ok (.putfield 26, 3) := by decide +kernel
theorem d_V_applyBetween_93 : decode b_V_applyBetween 93 = .ok (.aload_n 0, 1) := by decide +kernel
theorem d_V_applyBetween_94 : decode b_V_applyBetween 94 = .ok (.iload_n 2, 1) := by decide +kernel
theorem d_V_applyBetween_95 : decode b_V_applyBetween 95 = .ok (.putfield 22, 3) := by decide +kernel
theorem d_V_applyBetween_98 : decode b_V_applyBetween 98 = .ok (.return_, 1) := by decide +kernel
theorem wb_103 : Cond.fieldLink R_V 22 R_V "count" "I" ∈ WB := wbm (i := 157) (by decide +kernel) rfl
theorem wb_104 : Cond.fieldLink R_V 26 R_V "odd" "Z" ∈ WB := wbm (i := 158) (by decide +kernel) rfl
theorem wb_105 : Cond.fieldLink R_V 11 R_V "constants" "[J" ∈ WB := wbm (i := 154) (by decide +kernel) rfl
theorem wb_106 : Cond.fieldLink R_V 15 R_V "places" "[I" ∈ WB := wbm (i := 155) (by decide +kernel) rfl
theorem wb_107 : Cond.fieldLink R_V 19 R_V "takenOff" "[I" ∈ WB := wbm (i := 156) (by decide +kernel) rfl
theorem wb_108 : Cond.methodLink R_V 30 y_V_isConstant ∈ WB := wbm (i := 797) (by decide +kernel) rfl
theorem wb_109 : Cond.code y_V_isConstant b_V_isConstant 2 (some .boolean) ∈ WB := wbm (i := 800) (by decide +kernel) rfl
theorem wb_110 : Cond.instanceMethod y_V_isConstant ∈ WB := wbm (i := 799) (by decide +kernel) rfl
theorem wb_111 : Cond.selects R_V y_V_isConstant y_V_isConstant ∈ WB := wbm (i := 20) (by decide +kernel) rfl
theorem wb_112 : Cond.initialized R_V ∈ WB := wbm (i := 55) (by decide +kernel) rfl
theorem wb_113 : Cond.constantLong R_V 34 (-1 : Int64) ∈ WB := wbm (i := 801) (by decide +kernel) rfl
theorem wb_114 : Cond.methodLink R_V 47 y_V_isPlace ∈ WB := wbm (i := 814) (by decide +kernel) rfl
theorem wb_115 : Cond.code y_V_isPlace b_V_isPlace 2 (some .boolean) ∈ WB := wbm (i := 817) (by decide +kernel) rfl
theorem wb_116 : Cond.instanceMethod y_V_isPlace ∈ WB := wbm (i := 816) (by decide +kernel) rfl
theorem wb_117 : Cond.selects R_V y_V_isPlace y_V_isPlace ∈ WB := wbm (i := 23) (by decide +kernel) rfl
theorem wb_118 : Cond.constantLong R_V 50 (63 : Int64) ∈ WB := wbm (i := 822) (by decide +kernel) rfl
theorem wb_119 : Cond.methodLink R_V 52 y_V_divide ∈ WB := wbm (i := 823) (by decide +kernel) rfl
theorem wb_120 : Cond.code y_V_divide b_V_divide 6 (some .long) ∈ WB := wbm (i := 826) (by decide +kernel) rfl
theorem wb_121 : Cond.instanceMethod y_V_divide ∈ WB := wbm (i := 825) (by decide +kernel) rfl
theorem wb_122 : Cond.selects R_V y_V_divide y_V_divide ∈ WB := wbm (i := 25) (by decide +kernel) rfl
theorem wb_123 : Cond.methodLink R_V 43 y_V_combine ∈ WB := wbm (i := 818) (by decide +kernel) rfl
theorem wb_124 : Cond.code y_V_combine b_V_combine 6 (some .long) ∈ WB := wbm (i := 821) (by decide +kernel) rfl
theorem wb_125 : Cond.instanceMethod y_V_combine ∈ WB := wbm (i := 820) (by decide +kernel) rfl
theorem wb_126 : Cond.selects R_V y_V_combine y_V_combine ∈ WB := wbm (i := 24) (by decide +kernel) rfl
theorem wb_127 : Cond.methodLink R_V 40 y_V_takeOff ∈ WB := wbm (i := 810) (by decide +kernel) rfl
theorem wb_128 : Cond.code y_V_takeOff b_V_takeOff 3 none ∈ WB := wbm (i := 813) (by decide +kernel) rfl
theorem wb_129 : Cond.instanceMethod y_V_takeOff ∈ WB := wbm (i := 812) (by decide +kernel) rfl
theorem wb_130 : Cond.selects R_V y_V_takeOff y_V_takeOff ∈ WB := wbm (i := 22) (by decide +kernel) rfl
theorem wb_131 : Cond.methodLink R_V 36 y_V_add ∈ WB := wbm (i := 806) (by decide +kernel) rfl
theorem wb_132 : Cond.code y_V_add b_V_add 3 none ∈ WB := wbm (i := 809) (by decide +kernel) rfl
theorem wb_133 : Cond.instanceMethod y_V_add ∈ WB := wbm (i := 808) (by decide +kernel) rfl
theorem wb_134 : Cond.selects R_V y_V_add y_V_add ∈ WB := wbm (i := 21) (by decide +kernel) rfl
def f_V_clear (vn : Int32) (vd : Int32) : Option (Int32 × Int32) := some ((0 : Int32), (0 : Int32))
set_option maxHeartbeats 4000000 in
set_option maxRecDepth 100000 in
theorem c_V_clear (l : Launch) (dC : Nat → ClassId) (dI : Nat → Nat → Nat) (aV aC aP aO : Nat) (sz : Nat) (vn : Int32) (vd : Int32) (o : Int32 × Int32) (hf : f_V_clear vn vd = some o) : Met l y_V_clear (w_V_clear) ({ frames := 0, cells := 0, slots := 0, locals := 0 }) (va_Pc [.ref aV] (fun U => U.heap.size = sz ∧ va_P (dC, dI) vwCl [(aV, .inr (6, [.ref aC, .ref aP, .ref aO, .int vn, .int vd]))] U.heap ∧ va_K (dC, dI) vwCl [] U ∧ va_D (fun _ => True) [(aV, .inr (6, [.ref aC, .ref aP, .ref aO, .int vn, .int vd]))] ∧ NW U)) (va_Qv (fun (_ : Unit) => True) (fun _ t => va_P (dC, dI) vwCl [(aV, .inr (6, [.ref aC, .ref aP, .ref aO, .int o.1, .int o.2]))] t.heap ∧ va_K (dC, dI) vwCl [] t ∧ va_D (va_A [(aV, .inr (6, [.ref aC, .ref aP, .ref aO, .int vn, .int vd]))] sz) [(aV, .inr (6, [.ref aC, .ref aP, .ref aO, .int o.1, .int o.2]))]) (va_A [(aV, .inr (6, [.ref aC, .ref aP, .ref aO, .int vn, .int vd]))] sz)) 0 0 (va_A [(aV, .inr (6, [.ref aC, .ref aP, .ref aO, .int vn, .int vd]))] sz) := by
  refine Met.ofW (cc := b_V_clear) (maxL := 1) (ret := none) (by decide) rfl ?_
  intro p e s m args below meth c s₁ B hml hv
  obtain ⟨rfl, hsz, hP, hK, hD0, hN⟩ := hv
  have hx := B.exec
  have hb := B.bytes
  have hr := B.returns
  have hts : ∀ w ∈ WB, w.before _ s = true := fun w h => atoms_spec (ws := w_V_clear) B.pre w (List.mem_cons_of_mem _ h)
  have hown : s.vm.findClass R_V = some m.cls := findClass_of_methodNamed B.named
  have hlocks := B.notSynchronized
  subst hsz
  have hD := hD0.self (sz := s.heap.size)
  generalize hAe : va_A [(aV, .inr (6, [.ref aC, .ref aP, .ref aO, .int vn, .int vd]))] s.heap.size = A at hD ⊢
  have hA : ∀ q : Nat, s.heap.size ≤ q → A q := fun q h => by rw [← hAe]; exact Or.inr h
  have hS : va_S A s.heap s.heap [] := va_S.rf
  have hP : va_P (dC, dI) vwCl [(aV, .inr (6, [.ref aC, .ref aP, .ref aO, .int vn, .int vd]))] s.heap := hP
  have hl := lv_entry [.ref aV] (n := 1) (Nat.le_of_ble_eq_true rfl)
  rw [lg_entry_eq]
  generalize (lg_sl [.ref aV] ++ List.replicate (1 - (lg_sl [.ref aV]).length) Slot.unset).toArray = ls at hl ⊢
  have hl : lv_has ls 1 [(0, .ref aV)] := hl
  rw [f_V_clear] at hf
  refine lv_aload_n hx hb d_V_clear_0 rfl (lv_at hl 0 rfl) ?_
  refine lv_iconst (v := (0 : Int32)) hx hb d_V_clear_1 (by decide) ?_
  refine va_put (D := (dC, dI)) (ci := 6) (v := .int (0 : Int32)) (ty := .int) (C := R_V) (T := F_V) (N := 5) hx hb hts i_V ft_V tk_V n_V hown hK hP hD hS 0 rfl rfl 3 (by decide) (hts _ wb_103) (fun _ h9 => h9) rfl (by decide +kernel) rfl rfl (Nat.le_of_ble_eq_true rfl) d_V_clear_2 (fun H locs hP hD hS => ?_)
  have hP : va_P (dC, dI) vwCl [(aV, .inr (6, [.ref aC, .ref aP, .ref aO, .int (0 : Int32), .int vd]))] H := hP
  have hD : va_D A [(aV, .inr (6, [.ref aC, .ref aP, .ref aO, .int (0 : Int32), .int vd]))] := hD
  refine lv_aload_n hx hb d_V_clear_5 rfl (lv_at hl 0 rfl) ?_
  refine lv_iconst (v := (0 : Int32)) hx hb d_V_clear_6 (by decide) ?_
  refine va_put (D := (dC, dI)) (ci := 6) (v := .int (0 : Int32)) (ty := .boolean) (C := R_V) (T := F_V) (N := 5) hx hb hts i_V ft_V tk_V n_V hown hK hP hD hS 0 rfl rfl 4 (by decide) (hts _ wb_104) (fun _ h9 => h9) rfl (by decide +kernel) rfl rfl (Nat.le_of_ble_eq_true rfl) d_V_clear_7 (fun H locs hP hD hS => ?_)
  have hP : va_P (dC, dI) vwCl [(aV, .inr (6, [.ref aC, .ref aP, .ref aO, .int (0 : Int32), .int (0 : Int32)]))] H := hP
  have hD : va_D A [(aV, .inr (6, [.ref aC, .ref aP, .ref aO, .int (0 : Int32), .int (0 : Int32)]))] := hD
  have ho := Option.some.inj hf
  subst o
  have hP9 := hP.sub (ws' := [(aV, .inr (6, [.ref aC, .ref aP, .ref aO, .int (0 : Int32), .int (0 : Int32)]))]) [0] rfl
  have hD9 := hD.sub (ws' := [(aV, .inr (6, [.ref aC, .ref aP, .ref aO, .int (0 : Int32), .int (0 : Int32)]))]) [0] (by decide) rfl
  exact W.vret hx hb hr (fun t ht hW => ⟨⟨(), rfl, trivial, by rw [ht]; exact hP9, va_K.moved hW.alike hK, hD9⟩, hS.F ht⟩) hS.2.2 d_V_clear_10

def f_V_areOdd (vd : Int32) : Option (Int32) := gz vd (some (vd))
set_option maxHeartbeats 4000000 in
set_option maxRecDepth 100000 in
theorem c_V_areOdd (l : Launch) (dC : Nat → ClassId) (dI : Nat → Nat → Nat) (aV aC aP aO : Nat) (sz : Nat) (vn : Int32) (vd : Int32) (o : Int32) (hf : f_V_areOdd vd = some o) : Met l y_V_areOdd (w_V_areOdd) ({ frames := 0, cells := 0, slots := 0, locals := 0 }) (va_Pc [.ref aV] (fun U => U.heap.size = sz ∧ va_P (dC, dI) vwCl [(aV, .inr (6, [.ref aC, .ref aP, .ref aO, .int vn, .int vd]))] U.heap ∧ va_K (dC, dI) vwCl [] U ∧ va_D (fun _ => True) [(aV, .inr (6, [.ref aC, .ref aP, .ref aO, .int vn, .int vd]))] ∧ NW U)) (va_Qi (fun (r : Int32) (_ : Unit) => r = o ∧ narrow .boolean (.int r) = .int r) (fun _ t => va_P (dC, dI) vwCl [(aV, .inr (6, [.ref aC, .ref aP, .ref aO, .int vn, .int vd]))] t.heap ∧ va_K (dC, dI) vwCl [] t ∧ va_D (va_A [(aV, .inr (6, [.ref aC, .ref aP, .ref aO, .int vn, .int vd]))] sz) [(aV, .inr (6, [.ref aC, .ref aP, .ref aO, .int vn, .int vd]))]) (va_A [(aV, .inr (6, [.ref aC, .ref aP, .ref aO, .int vn, .int vd]))] sz)) 0 0 (va_A [(aV, .inr (6, [.ref aC, .ref aP, .ref aO, .int vn, .int vd]))] sz) := by
  refine Met.ofW (cc := b_V_areOdd) (maxL := 1) (ret := (some .boolean)) (by decide) rfl ?_
  intro p e s m args below meth c s₁ B hml hv
  obtain ⟨rfl, hsz, hP, hK, hD0, hN⟩ := hv
  have hx := B.exec
  have hb := B.bytes
  have hr := B.returns
  have hts : ∀ w ∈ WB, w.before _ s = true := fun w h => atoms_spec (ws := w_V_areOdd) B.pre w (List.mem_cons_of_mem _ h)
  have hown : s.vm.findClass R_V = some m.cls := findClass_of_methodNamed B.named
  have hlocks := B.notSynchronized
  subst hsz
  have hD := hD0.self (sz := s.heap.size)
  generalize hAe : va_A [(aV, .inr (6, [.ref aC, .ref aP, .ref aO, .int vn, .int vd]))] s.heap.size = A at hD ⊢
  have hA : ∀ q : Nat, s.heap.size ≤ q → A q := fun q h => by rw [← hAe]; exact Or.inr h
  have hS : va_S A s.heap s.heap [] := va_S.rf
  have hP : va_P (dC, dI) vwCl [(aV, .inr (6, [.ref aC, .ref aP, .ref aO, .int vn, .int vd]))] s.heap := hP
  have hl := lv_entry [.ref aV] (n := 1) (Nat.le_of_ble_eq_true rfl)
  rw [lg_entry_eq]
  generalize (lg_sl [.ref aV] ++ List.replicate (1 - (lg_sl [.ref aV]).length) Slot.unset).toArray = ls at hl ⊢
  have hl : lv_has ls 1 [(0, .ref aV)] := hl
  rw [f_V_areOdd] at hf
  refine lv_aload_n hx hb d_V_areOdd_0 rfl (lv_at hl 0 rfl) ?_
  refine va_get (D := (dC, dI)) (ci := 6) (v := .int vd) (C := R_V) (T := F_V) (N := 5) hx hb hts i_V hown hK hP 0 rfl rfl 4 (by decide) (hts _ wb_104) (fun _ h9 => h9) rfl d_V_areOdd_1 ?_
  obtain ⟨hzz, hf⟩ := gz_some hf
  have ho := Option.some.inj hf
  subst o
  have hP9 := hP.sub (ws' := [(aV, .inr (6, [.ref aC, .ref aP, .ref aO, .int vn, .int vd]))]) [0] rfl
  have hD9 := hD.sub (ws' := [(aV, .inr (6, [.ref aC, .ref aP, .ref aO, .int vn, .int vd]))]) [0] (by decide) rfl
  exact W.zret (v := vd) (ty := .boolean) hx hb hr hzz (fun t ht hW => ⟨⟨vd, (), rfl, ⟨rfl, hzz⟩, by rw [ht]; exact hP9, va_K.moved hW.alike hK, hD9⟩, hS.F ht⟩) hS.2.2 d_V_areOdd_4

def f_V_constantOfFirst (vc : Nat → Int64) : Option (Int64) := gi (0 : Int32) 512 (some (vc (0 : Int32).toNatClampNeg))
set_option maxHeartbeats 4000000 in
set_option maxRecDepth 100000 in
theorem c_V_constantOfFirst (l : Launch) (dC : Nat → ClassId) (dI : Nat → Nat → Nat) (aV aC aP aO : Nat) (cC : ClassId) (sz : Nat) (vn : Int32) (vd : Int32) (vc : Nat → Int64) (o : Int64) (hf : f_V_constantOfFirst vc = some o) : Met l y_V_constantOfFirst (w_V_constantOfFirst) ({ frames := 0, cells := 0, slots := 0, locals := 0 }) (va_Pc [.ref aV] (fun U => U.heap.size = sz ∧ va_P (dC, dI) vwCl [(aV, .inr (6, [.ref aC, .ref aP, .ref aO, .int vn, .int vd])), (aC, .inl (cC, 512, .inr (.inl vc)))] U.heap ∧ va_K (dC, dI) vwCl [(cC, .long)] U ∧ va_D (fun _ => True) [(aV, .inr (6, [.ref aC, .ref aP, .ref aO, .int vn, .int vd])), (aC, .inl (cC, 512, .inr (.inl vc)))] ∧ NW U)) (va_Ql (fun (r : Int64) (_ : Unit) => r = o) (fun _ t => va_P (dC, dI) vwCl [(aV, .inr (6, [.ref aC, .ref aP, .ref aO, .int vn, .int vd])), (aC, .inl (cC, 512, .inr (.inl vc)))] t.heap ∧ va_K (dC, dI) vwCl [(cC, .long)] t ∧ va_D (va_A [(aV, .inr (6, [.ref aC, .ref aP, .ref aO, .int vn, .int vd])), (aC, .inl (cC, 512, .inr (.inl vc)))] sz) [(aV, .inr (6, [.ref aC, .ref aP, .ref aO, .int vn, .int vd])), (aC, .inl (cC, 512, .inr (.inl vc)))]) (va_A [(aV, .inr (6, [.ref aC, .ref aP, .ref aO, .int vn, .int vd])), (aC, .inl (cC, 512, .inr (.inl vc)))] sz)) 0 0 (va_A [(aV, .inr (6, [.ref aC, .ref aP, .ref aO, .int vn, .int vd])), (aC, .inl (cC, 512, .inr (.inl vc)))] sz) := by
  refine Met.ofW (cc := b_V_constantOfFirst) (maxL := 1) (ret := (some .long)) (by decide) rfl ?_
  intro p e s m args below meth c s₁ B hml hv
  obtain ⟨rfl, hsz, hP, hK, hD0, hN⟩ := hv
  have hx := B.exec
  have hb := B.bytes
  have hr := B.returns
  have hts : ∀ w ∈ WB, w.before _ s = true := fun w h => atoms_spec (ws := w_V_constantOfFirst) B.pre w (List.mem_cons_of_mem _ h)
  have hown : s.vm.findClass R_V = some m.cls := findClass_of_methodNamed B.named
  have hlocks := B.notSynchronized
  subst hsz
  have hD := hD0.self (sz := s.heap.size)
  generalize hAe : va_A [(aV, .inr (6, [.ref aC, .ref aP, .ref aO, .int vn, .int vd])), (aC, .inl (cC, 512, .inr (.inl vc)))] s.heap.size = A at hD ⊢
  have hA : ∀ q : Nat, s.heap.size ≤ q → A q := fun q h => by rw [← hAe]; exact Or.inr h
  have hS : va_S A s.heap s.heap [] := va_S.rf
  have hP : va_P (dC, dI) vwCl [(aV, .inr (6, [.ref aC, .ref aP, .ref aO, .int vn, .int vd])), (aC, .inl (cC, 512, .inr (.inl vc)))] s.heap := hP
  have hl := lv_entry [.ref aV] (n := 1) (Nat.le_of_ble_eq_true rfl)
  rw [lg_entry_eq]
  generalize (lg_sl [.ref aV] ++ List.replicate (1 - (lg_sl [.ref aV]).length) Slot.unset).toArray = ls at hl ⊢
  have hl : lv_has ls 1 [(0, .ref aV)] := hl
  rw [f_V_constantOfFirst] at hf
  refine lv_aload_n hx hb d_V_constantOfFirst_0 rfl (lv_at hl 0 rfl) ?_
  refine va_get (D := (dC, dI)) (ci := 6) (v := .ref aC) (C := R_V) (T := F_V) (N := 5) hx hb hts i_V hown hK hP 0 rfl rfl 0 (by decide) (hts _ wb_105) (fun _ h9 => h9) rfl d_V_constantOfFirst_1 ?_
  refine lv_iconst (v := (0 : Int32)) hx hb d_V_constantOfFirst_4 (by decide) ?_
  obtain ⟨hin, hf⟩ := gi_some hf
  refine va_lald hx hb hK hP 1 0 rfl rfl hin d_V_constantOfFirst_5 ?_
  have ho := Option.some.inj hf
  subst o
  have hP9 := hP.sub (ws' := [(aV, .inr (6, [.ref aC, .ref aP, .ref aO, .int vn, .int vd])), (aC, .inl (cC, 512, .inr (.inl vc)))]) [0, 1] rfl
  have hD9 := hD.sub (ws' := [(aV, .inr (6, [.ref aC, .ref aP, .ref aO, .int vn, .int vd])), (aC, .inl (cC, 512, .inr (.inl vc)))]) [0, 1] (by decide) rfl
  exact W.lret (v := vc (0 : Int32).toNatClampNeg) hx hb hr (fun t ht hW => ⟨⟨vc (0 : Int32).toNatClampNeg, (), rfl, rfl, by rw [ht]; exact hP9, va_K.moved hW.alike hK, hD9⟩, hS.F ht⟩) hS.2.2 d_V_constantOfFirst_6

def f_V_placeOfFirst (vp : Nat → Int32) : Option (Int32) := gi (0 : Int32) 512 (some (vp (0 : Int32).toNatClampNeg))
set_option maxHeartbeats 4000000 in
set_option maxRecDepth 100000 in
theorem c_V_placeOfFirst (l : Launch) (dC : Nat → ClassId) (dI : Nat → Nat → Nat) (aV aC aP aO : Nat) (cP : ClassId) (sz : Nat) (vn : Int32) (vd : Int32) (vp : Nat → Int32) (o : Int32) (hf : f_V_placeOfFirst vp = some o) : Met l y_V_placeOfFirst (w_V_placeOfFirst) ({ frames := 0, cells := 0, slots := 0, locals := 0 }) (va_Pc [.ref aV] (fun U => U.heap.size = sz ∧ va_P (dC, dI) vwCl [(aV, .inr (6, [.ref aC, .ref aP, .ref aO, .int vn, .int vd])), (aP, .inl (cP, 512, .inl vp))] U.heap ∧ va_K (dC, dI) vwCl [(cP, .int)] U ∧ va_D (fun _ => True) [(aV, .inr (6, [.ref aC, .ref aP, .ref aO, .int vn, .int vd])), (aP, .inl (cP, 512, .inl vp))] ∧ NW U)) (va_Qi (fun (r : Int32) (_ : Unit) => r = o) (fun _ t => va_P (dC, dI) vwCl [(aV, .inr (6, [.ref aC, .ref aP, .ref aO, .int vn, .int vd])), (aP, .inl (cP, 512, .inl vp))] t.heap ∧ va_K (dC, dI) vwCl [(cP, .int)] t ∧ va_D (va_A [(aV, .inr (6, [.ref aC, .ref aP, .ref aO, .int vn, .int vd])), (aP, .inl (cP, 512, .inl vp))] sz) [(aV, .inr (6, [.ref aC, .ref aP, .ref aO, .int vn, .int vd])), (aP, .inl (cP, 512, .inl vp))]) (va_A [(aV, .inr (6, [.ref aC, .ref aP, .ref aO, .int vn, .int vd])), (aP, .inl (cP, 512, .inl vp))] sz)) 0 0 (va_A [(aV, .inr (6, [.ref aC, .ref aP, .ref aO, .int vn, .int vd])), (aP, .inl (cP, 512, .inl vp))] sz) := by
  refine Met.ofW (cc := b_V_placeOfFirst) (maxL := 1) (ret := (some .int)) (by decide) rfl ?_
  intro p e s m args below meth c s₁ B hml hv
  obtain ⟨rfl, hsz, hP, hK, hD0, hN⟩ := hv
  have hx := B.exec
  have hb := B.bytes
  have hr := B.returns
  have hts : ∀ w ∈ WB, w.before _ s = true := fun w h => atoms_spec (ws := w_V_placeOfFirst) B.pre w (List.mem_cons_of_mem _ h)
  have hown : s.vm.findClass R_V = some m.cls := findClass_of_methodNamed B.named
  have hlocks := B.notSynchronized
  subst hsz
  have hD := hD0.self (sz := s.heap.size)
  generalize hAe : va_A [(aV, .inr (6, [.ref aC, .ref aP, .ref aO, .int vn, .int vd])), (aP, .inl (cP, 512, .inl vp))] s.heap.size = A at hD ⊢
  have hA : ∀ q : Nat, s.heap.size ≤ q → A q := fun q h => by rw [← hAe]; exact Or.inr h
  have hS : va_S A s.heap s.heap [] := va_S.rf
  have hP : va_P (dC, dI) vwCl [(aV, .inr (6, [.ref aC, .ref aP, .ref aO, .int vn, .int vd])), (aP, .inl (cP, 512, .inl vp))] s.heap := hP
  have hl := lv_entry [.ref aV] (n := 1) (Nat.le_of_ble_eq_true rfl)
  rw [lg_entry_eq]
  generalize (lg_sl [.ref aV] ++ List.replicate (1 - (lg_sl [.ref aV]).length) Slot.unset).toArray = ls at hl ⊢
  have hl : lv_has ls 1 [(0, .ref aV)] := hl
  rw [f_V_placeOfFirst] at hf
  refine lv_aload_n hx hb d_V_placeOfFirst_0 rfl (lv_at hl 0 rfl) ?_
  refine va_get (D := (dC, dI)) (ci := 6) (v := .ref aP) (C := R_V) (T := F_V) (N := 5) hx hb hts i_V hown hK hP 0 rfl rfl 1 (by decide) (hts _ wb_106) (fun _ h9 => h9) rfl d_V_placeOfFirst_1 ?_
  refine lv_iconst (v := (0 : Int32)) hx hb d_V_placeOfFirst_4 (by decide) ?_
  obtain ⟨hin, hf⟩ := gi_some hf
  refine va_iald hx hb hK hP 1 0 rfl rfl hin d_V_placeOfFirst_5 ?_
  have ho := Option.some.inj hf
  subst o
  have hP9 := hP.sub (ws' := [(aV, .inr (6, [.ref aC, .ref aP, .ref aO, .int vn, .int vd])), (aP, .inl (cP, 512, .inl vp))]) [0, 1] rfl
  have hD9 := hD.sub (ws' := [(aV, .inr (6, [.ref aC, .ref aP, .ref aO, .int vn, .int vd])), (aP, .inl (cP, 512, .inl vp))]) [0, 1] (by decide) rfl
  exact W.iret (v := vp (0 : Int32).toNatClampNeg) hx hb hr (fun t ht hW => ⟨⟨vp (0 : Int32).toNatClampNeg, (), rfl, rfl, by rw [ht]; exact hP9, va_K.moved hW.alike hK, hD9⟩, hS.F ht⟩) hS.2.2 d_V_placeOfFirst_6

def f_V_takenOffOfFirst (vo : Nat → Int32) : Option (Int32) := gi (0 : Int32) 512 (some (vo (0 : Int32).toNatClampNeg))
set_option maxHeartbeats 4000000 in
set_option maxRecDepth 100000 in
theorem c_V_takenOffOfFirst (l : Launch) (dC : Nat → ClassId) (dI : Nat → Nat → Nat) (aV aC aP aO : Nat) (cO : ClassId) (sz : Nat) (vn : Int32) (vd : Int32) (vo : Nat → Int32) (o : Int32) (hf : f_V_takenOffOfFirst vo = some o) : Met l y_V_takenOffOfFirst (w_V_takenOffOfFirst) ({ frames := 0, cells := 0, slots := 0, locals := 0 }) (va_Pc [.ref aV] (fun U => U.heap.size = sz ∧ va_P (dC, dI) vwCl [(aV, .inr (6, [.ref aC, .ref aP, .ref aO, .int vn, .int vd])), (aO, .inl (cO, 512, .inl vo))] U.heap ∧ va_K (dC, dI) vwCl [(cO, .int)] U ∧ va_D (fun _ => True) [(aV, .inr (6, [.ref aC, .ref aP, .ref aO, .int vn, .int vd])), (aO, .inl (cO, 512, .inl vo))] ∧ NW U)) (va_Qi (fun (r : Int32) (_ : Unit) => r = o) (fun _ t => va_P (dC, dI) vwCl [(aV, .inr (6, [.ref aC, .ref aP, .ref aO, .int vn, .int vd])), (aO, .inl (cO, 512, .inl vo))] t.heap ∧ va_K (dC, dI) vwCl [(cO, .int)] t ∧ va_D (va_A [(aV, .inr (6, [.ref aC, .ref aP, .ref aO, .int vn, .int vd])), (aO, .inl (cO, 512, .inl vo))] sz) [(aV, .inr (6, [.ref aC, .ref aP, .ref aO, .int vn, .int vd])), (aO, .inl (cO, 512, .inl vo))]) (va_A [(aV, .inr (6, [.ref aC, .ref aP, .ref aO, .int vn, .int vd])), (aO, .inl (cO, 512, .inl vo))] sz)) 0 0 (va_A [(aV, .inr (6, [.ref aC, .ref aP, .ref aO, .int vn, .int vd])), (aO, .inl (cO, 512, .inl vo))] sz) := by
  refine Met.ofW (cc := b_V_takenOffOfFirst) (maxL := 1) (ret := (some .int)) (by decide) rfl ?_
  intro p e s m args below meth c s₁ B hml hv
  obtain ⟨rfl, hsz, hP, hK, hD0, hN⟩ := hv
  have hx := B.exec
  have hb := B.bytes
  have hr := B.returns
  have hts : ∀ w ∈ WB, w.before _ s = true := fun w h => atoms_spec (ws := w_V_takenOffOfFirst) B.pre w (List.mem_cons_of_mem _ h)
  have hown : s.vm.findClass R_V = some m.cls := findClass_of_methodNamed B.named
  have hlocks := B.notSynchronized
  subst hsz
  have hD := hD0.self (sz := s.heap.size)
  generalize hAe : va_A [(aV, .inr (6, [.ref aC, .ref aP, .ref aO, .int vn, .int vd])), (aO, .inl (cO, 512, .inl vo))] s.heap.size = A at hD ⊢
  have hA : ∀ q : Nat, s.heap.size ≤ q → A q := fun q h => by rw [← hAe]; exact Or.inr h
  have hS : va_S A s.heap s.heap [] := va_S.rf
  have hP : va_P (dC, dI) vwCl [(aV, .inr (6, [.ref aC, .ref aP, .ref aO, .int vn, .int vd])), (aO, .inl (cO, 512, .inl vo))] s.heap := hP
  have hl := lv_entry [.ref aV] (n := 1) (Nat.le_of_ble_eq_true rfl)
  rw [lg_entry_eq]
  generalize (lg_sl [.ref aV] ++ List.replicate (1 - (lg_sl [.ref aV]).length) Slot.unset).toArray = ls at hl ⊢
  have hl : lv_has ls 1 [(0, .ref aV)] := hl
  rw [f_V_takenOffOfFirst] at hf
  refine lv_aload_n hx hb d_V_takenOffOfFirst_0 rfl (lv_at hl 0 rfl) ?_
  refine va_get (D := (dC, dI)) (ci := 6) (v := .ref aO) (C := R_V) (T := F_V) (N := 5) hx hb hts i_V hown hK hP 0 rfl rfl 2 (by decide) (hts _ wb_107) (fun _ h9 => h9) rfl d_V_takenOffOfFirst_1 ?_
  refine lv_iconst (v := (0 : Int32)) hx hb d_V_takenOffOfFirst_4 (by decide) ?_
  obtain ⟨hin, hf⟩ := gi_some hf
  refine va_iald hx hb hK hP 1 0 rfl rfl hin d_V_takenOffOfFirst_5 ?_
  have ho := Option.some.inj hf
  subst o
  have hP9 := hP.sub (ws' := [(aV, .inr (6, [.ref aC, .ref aP, .ref aO, .int vn, .int vd])), (aO, .inl (cO, 512, .inl vo))]) [0, 1] rfl
  have hD9 := hD.sub (ws' := [(aV, .inr (6, [.ref aC, .ref aP, .ref aO, .int vn, .int vd])), (aO, .inl (cO, 512, .inl vo))]) [0, 1] (by decide) rfl
  exact W.iret (v := vo (0 : Int32).toNatClampNeg) hx hb hr (fun t ht hW => ⟨⟨vo (0 : Int32).toNatClampNeg, (), rfl, rfl, by rw [ht]; exact hP9, va_K.moved hW.alike hK, hD9⟩, hS.F ht⟩) hS.2.2 d_V_takenOffOfFirst_6

def f_V_push (vn : Int32) (vc : Nat → Int64) (vp : Nat → Int32) (vo : Nat → Int32) (p0 : Int64) (p1 : Int32) : Option (Int32 × (Nat → Int64) × (Nat → Int32) × (Nat → Int32)) := if (512 : Int32) ≤ vn then some (vn, vc, vp, vo) else gi vn 512 (gi vn 512 (gi vn 512 (some (vn + (1 : Int32), vp_updL vc vn.toNatClampNeg p0, upd vp vn.toNatClampNeg p1, upd vo vn.toNatClampNeg (-1 : Int32)))))
set_option maxHeartbeats 4000000 in
set_option maxRecDepth 100000 in
theorem c_V_push (l : Launch) (dC : Nat → ClassId) (dI : Nat → Nat → Nat) (aV aC aP aO : Nat) (cC cP cO : ClassId) (sz : Nat) (vn : Int32) (vd : Int32) (vc : Nat → Int64) (vp : Nat → Int32) (vo : Nat → Int32) (p0 : Int64) (p1 : Int32) (o : Int32 × (Nat → Int64) × (Nat → Int32) × (Nat → Int32)) (hf : f_V_push vn vc vp vo p0 p1 = some o) : Met l y_V_push (w_V_push) ({ frames := 0, cells := 0, slots := 0, locals := 0 }) (va_Pc [.ref aV, .long p0, .int p1] (fun U => U.heap.size = sz ∧ va_P (dC, dI) vwCl [(aV, .inr (6, [.ref aC, .ref aP, .ref aO, .int vn, .int vd])), (aC, .inl (cC, 512, .inr (.inl vc))), (aP, .inl (cP, 512, .inl vp)), (aO, .inl (cO, 512, .inl vo))] U.heap ∧ va_K (dC, dI) vwCl [(cC, .long), (cP, .int), (cO, .int)] U ∧ va_D (fun _ => True) [(aV, .inr (6, [.ref aC, .ref aP, .ref aO, .int vn, .int vd])), (aC, .inl (cC, 512, .inr (.inl vc))), (aP, .inl (cP, 512, .inl vp)), (aO, .inl (cO, 512, .inl vo))] ∧ NW U)) (va_Qv (fun (_ : Unit) => True) (fun _ t => va_P (dC, dI) vwCl [(aV, .inr (6, [.ref aC, .ref aP, .ref aO, .int o.1, .int vd])), (aC, .inl (cC, 512, .inr (.inl o.2.1))), (aP, .inl (cP, 512, .inl o.2.2.1)), (aO, .inl (cO, 512, .inl o.2.2.2))] t.heap ∧ va_K (dC, dI) vwCl [(cC, .long), (cP, .int), (cO, .int)] t ∧ va_D (va_A [(aV, .inr (6, [.ref aC, .ref aP, .ref aO, .int vn, .int vd])), (aC, .inl (cC, 512, .inr (.inl vc))), (aP, .inl (cP, 512, .inl vp)), (aO, .inl (cO, 512, .inl vo))] sz) [(aV, .inr (6, [.ref aC, .ref aP, .ref aO, .int o.1, .int vd])), (aC, .inl (cC, 512, .inr (.inl o.2.1))), (aP, .inl (cP, 512, .inl o.2.2.1)), (aO, .inl (cO, 512, .inl o.2.2.2))]) (va_A [(aV, .inr (6, [.ref aC, .ref aP, .ref aO, .int vn, .int vd])), (aC, .inl (cC, 512, .inr (.inl vc))), (aP, .inl (cP, 512, .inl vp)), (aO, .inl (cO, 512, .inl vo))] sz)) 0 0 (va_A [(aV, .inr (6, [.ref aC, .ref aP, .ref aO, .int vn, .int vd])), (aC, .inl (cC, 512, .inr (.inl vc))), (aP, .inl (cP, 512, .inl vp)), (aO, .inl (cO, 512, .inl vo))] sz) := by
  refine Met.ofW (cc := b_V_push) (maxL := 4) (ret := none) (by decide) rfl ?_
  intro p e s m args below meth c s₁ B hml hv
  obtain ⟨rfl, hsz, hP, hK, hD0, hN⟩ := hv
  have hx := B.exec
  have hb := B.bytes
  have hr := B.returns
  have hts : ∀ w ∈ WB, w.before _ s = true := fun w h => atoms_spec (ws := w_V_push) B.pre w (List.mem_cons_of_mem _ h)
  have hown : s.vm.findClass R_V = some m.cls := findClass_of_methodNamed B.named
  have hlocks := B.notSynchronized
  subst hsz
  have hD := hD0.self (sz := s.heap.size)
  generalize hAe : va_A [(aV, .inr (6, [.ref aC, .ref aP, .ref aO, .int vn, .int vd])), (aC, .inl (cC, 512, .inr (.inl vc))), (aP, .inl (cP, 512, .inl vp)), (aO, .inl (cO, 512, .inl vo))] s.heap.size = A at hD ⊢
  have hA : ∀ q : Nat, s.heap.size ≤ q → A q := fun q h => by rw [← hAe]; exact Or.inr h
  have hS : va_S A s.heap s.heap [] := va_S.rf
  have hP : va_P (dC, dI) vwCl [(aV, .inr (6, [.ref aC, .ref aP, .ref aO, .int vn, .int vd])), (aC, .inl (cC, 512, .inr (.inl vc))), (aP, .inl (cP, 512, .inl vp)), (aO, .inl (cO, 512, .inl vo))] s.heap := hP
  have hl := lv_entry [.ref aV, .long p0, .int p1] (n := 4) (Nat.le_of_ble_eq_true rfl)
  rw [lg_entry_eq]
  generalize (lg_sl [.ref aV, .long p0, .int p1] ++ List.replicate (4 - (lg_sl [.ref aV, .long p0, .int p1]).length) Slot.unset).toArray = ls at hl ⊢
  have hl : lv_has ls 4 [(0, .ref aV), (1, .long p0), (3, .int p1)] := hl
  rw [f_V_push] at hf
  refine lv_aload_n hx hb d_V_push_0 rfl (lv_at hl 0 rfl) ?_
  refine va_get (D := (dC, dI)) (ci := 6) (v := .int vn) (C := R_V) (T := F_V) (N := 5) hx hb hts i_V hown hK hP 0 rfl rfl 3 (by decide) (hts _ wb_103) (fun _ h9 => h9) rfl d_V_push_1 ?_
  refine lv_sipush (v := (512 : Int32)) hx hb d_V_push_4 (by decide) ?_
  refine lv_icmp_ge (tgt := 50) hx hb d_V_push_7 (by decide) (fun c_1 => ?_) (fun c_1 => ?_)
  · rw [if_pos c_1] at hf
    have ho := Option.some.inj hf
    subst o
    have hP9 := hP.sub (ws' := [(aV, .inr (6, [.ref aC, .ref aP, .ref aO, .int vn, .int vd])), (aC, .inl (cC, 512, .inr (.inl vc))), (aP, .inl (cP, 512, .inl vp)), (aO, .inl (cO, 512, .inl vo))]) [0, 1, 2, 3] rfl
    have hD9 := hD.sub (ws' := [(aV, .inr (6, [.ref aC, .ref aP, .ref aO, .int vn, .int vd])), (aC, .inl (cC, 512, .inr (.inl vc))), (aP, .inl (cP, 512, .inl vp)), (aO, .inl (cO, 512, .inl vo))]) [0, 1, 2, 3] (by decide) rfl
    exact W.vret hx hb hr (fun t ht hW => ⟨⟨(), rfl, trivial, by rw [ht]; exact hP9, va_K.moved hW.alike hK, hD9⟩, hS.F ht⟩) hS.2.2 d_V_push_50
  · rw [if_neg c_1] at hf
    refine lv_aload_n hx hb d_V_push_10 rfl (lv_at hl 0 rfl) ?_
    refine va_get (D := (dC, dI)) (ci := 6) (v := .ref aC) (C := R_V) (T := F_V) (N := 5) hx hb hts i_V hown hK hP 0 rfl rfl 0 (by decide) (hts _ wb_105) (fun _ h9 => h9) rfl d_V_push_11 ?_
    refine lv_aload_n hx hb d_V_push_14 rfl (lv_at hl 0 rfl) ?_
    refine va_get (D := (dC, dI)) (ci := 6) (v := .int vn) (C := R_V) (T := F_V) (N := 5) hx hb hts i_V hown hK hP 0 rfl rfl 3 (by decide) (hts _ wb_103) (fun _ h9 => h9) rfl d_V_push_15 ?_
    refine lv_lload_n hx hb d_V_push_18 rfl (lv_at hl 1 rfl) ?_
    obtain ⟨hin, hf⟩ := gi_some hf
    refine va_last hx hb hK hP hD hS 1 0 rfl rfl hin d_V_push_19 (fun H locs hP hD hS => ?_)
    have hP : va_P (dC, dI) vwCl [(aV, .inr (6, [.ref aC, .ref aP, .ref aO, .int vn, .int vd])), (aC, .inl (cC, 512, .inr (.inl (vp_updL vc vn.toNatClampNeg p0)))), (aP, .inl (cP, 512, .inl vp)), (aO, .inl (cO, 512, .inl vo))] H := hP
    have hD : va_D A [(aV, .inr (6, [.ref aC, .ref aP, .ref aO, .int vn, .int vd])), (aC, .inl (cC, 512, .inr (.inl (vp_updL vc vn.toNatClampNeg p0)))), (aP, .inl (cP, 512, .inl vp)), (aO, .inl (cO, 512, .inl vo))] := hD
    refine lv_aload_n hx hb d_V_push_20 rfl (lv_at hl 0 rfl) ?_
    refine va_get (D := (dC, dI)) (ci := 6) (v := .ref aP) (C := R_V) (T := F_V) (N := 5) hx hb hts i_V hown hK hP 0 rfl rfl 1 (by decide) (hts _ wb_106) (fun _ h9 => h9) rfl d_V_push_21 ?_
    refine lv_aload_n hx hb d_V_push_24 rfl (lv_at hl 0 rfl) ?_
    refine va_get (D := (dC, dI)) (ci := 6) (v := .int vn) (C := R_V) (T := F_V) (N := 5) hx hb hts i_V hown hK hP 0 rfl rfl 3 (by decide) (hts _ wb_103) (fun _ h9 => h9) rfl d_V_push_25 ?_
    refine lv_iload_n hx hb d_V_push_28 rfl (lv_at hl 2 rfl) ?_
    obtain ⟨hin, hf⟩ := gi_some hf
    refine va_iast hx hb hK hP hD hS 2 1 rfl rfl hin d_V_push_29 (fun H locs hP hD hS => ?_)
    have hP : va_P (dC, dI) vwCl [(aV, .inr (6, [.ref aC, .ref aP, .ref aO, .int vn, .int vd])), (aC, .inl (cC, 512, .inr (.inl (vp_updL vc vn.toNatClampNeg p0)))), (aP, .inl (cP, 512, .inl (upd vp vn.toNatClampNeg p1))), (aO, .inl (cO, 512, .inl vo))] H := hP
    have hD : va_D A [(aV, .inr (6, [.ref aC, .ref aP, .ref aO, .int vn, .int vd])), (aC, .inl (cC, 512, .inr (.inl (vp_updL vc vn.toNatClampNeg p0)))), (aP, .inl (cP, 512, .inl (upd vp vn.toNatClampNeg p1))), (aO, .inl (cO, 512, .inl vo))] := hD
    refine lv_aload_n hx hb d_V_push_30 rfl (lv_at hl 0 rfl) ?_
    refine va_get (D := (dC, dI)) (ci := 6) (v := .ref aO) (C := R_V) (T := F_V) (N := 5) hx hb hts i_V hown hK hP 0 rfl rfl 2 (by decide) (hts _ wb_107) (fun _ h9 => h9) rfl d_V_push_31 ?_
    refine lv_aload_n hx hb d_V_push_34 rfl (lv_at hl 0 rfl) ?_
    refine va_get (D := (dC, dI)) (ci := 6) (v := .int vn) (C := R_V) (T := F_V) (N := 5) hx hb hts i_V hown hK hP 0 rfl rfl 3 (by decide) (hts _ wb_103) (fun _ h9 => h9) rfl d_V_push_35 ?_
    refine lv_iconst (v := (-1 : Int32)) hx hb d_V_push_38 (by decide) ?_
    obtain ⟨hin, hf⟩ := gi_some hf
    refine va_iast hx hb hK hP hD hS 3 2 rfl rfl hin d_V_push_39 (fun H locs hP hD hS => ?_)
    have hP : va_P (dC, dI) vwCl [(aV, .inr (6, [.ref aC, .ref aP, .ref aO, .int vn, .int vd])), (aC, .inl (cC, 512, .inr (.inl (vp_updL vc vn.toNatClampNeg p0)))), (aP, .inl (cP, 512, .inl (upd vp vn.toNatClampNeg p1))), (aO, .inl (cO, 512, .inl (upd vo vn.toNatClampNeg (-1 : Int32))))] H := hP
    have hD : va_D A [(aV, .inr (6, [.ref aC, .ref aP, .ref aO, .int vn, .int vd])), (aC, .inl (cC, 512, .inr (.inl (vp_updL vc vn.toNatClampNeg p0)))), (aP, .inl (cP, 512, .inl (upd vp vn.toNatClampNeg p1))), (aO, .inl (cO, 512, .inl (upd vo vn.toNatClampNeg (-1 : Int32))))] := hD
    refine lv_aload_n hx hb d_V_push_40 rfl (lv_at hl 0 rfl) ?_
    refine lv_dup hx hb d_V_push_41 rfl ?_
    refine va_get (D := (dC, dI)) (ci := 6) (v := .int vn) (C := R_V) (T := F_V) (N := 5) hx hb hts i_V hown hK hP 0 rfl rfl 3 (by decide) (hts _ wb_103) (fun _ h9 => h9) rfl d_V_push_42 ?_
    refine lv_iconst (v := (1 : Int32)) hx hb d_V_push_45 (by decide) ?_
    refine lv_iadd hx hb d_V_push_46 ?_
    refine va_put (D := (dC, dI)) (ci := 6) (v := .int (vn + (1 : Int32))) (ty := .int) (C := R_V) (T := F_V) (N := 5) hx hb hts i_V ft_V tk_V n_V hown hK hP hD hS 0 rfl rfl 3 (by decide) (hts _ wb_103) (fun _ h9 => h9) rfl (by decide +kernel) rfl rfl (Nat.le_of_ble_eq_true rfl) d_V_push_47 (fun H locs hP hD hS => ?_)
    have hP : va_P (dC, dI) vwCl [(aV, .inr (6, [.ref aC, .ref aP, .ref aO, .int (vn + (1 : Int32)), .int vd])), (aC, .inl (cC, 512, .inr (.inl (vp_updL vc vn.toNatClampNeg p0)))), (aP, .inl (cP, 512, .inl (upd vp vn.toNatClampNeg p1))), (aO, .inl (cO, 512, .inl (upd vo vn.toNatClampNeg (-1 : Int32))))] H := hP
    have hD : va_D A [(aV, .inr (6, [.ref aC, .ref aP, .ref aO, .int (vn + (1 : Int32)), .int vd])), (aC, .inl (cC, 512, .inr (.inl (vp_updL vc vn.toNatClampNeg p0)))), (aP, .inl (cP, 512, .inl (upd vp vn.toNatClampNeg p1))), (aO, .inl (cO, 512, .inl (upd vo vn.toNatClampNeg (-1 : Int32))))] := hD
    have ho := Option.some.inj hf
    subst o
    have hP9 := hP.sub (ws' := [(aV, .inr (6, [.ref aC, .ref aP, .ref aO, .int (vn + (1 : Int32)), .int vd])), (aC, .inl (cC, 512, .inr (.inl (vp_updL vc vn.toNatClampNeg p0)))), (aP, .inl (cP, 512, .inl (upd vp vn.toNatClampNeg p1))), (aO, .inl (cO, 512, .inl (upd vo vn.toNatClampNeg (-1 : Int32))))]) [0, 1, 2, 3] rfl
    have hD9 := hD.sub (ws' := [(aV, .inr (6, [.ref aC, .ref aP, .ref aO, .int (vn + (1 : Int32)), .int vd])), (aC, .inl (cC, 512, .inr (.inl (vp_updL vc vn.toNatClampNeg p0)))), (aP, .inl (cP, 512, .inl (upd vp vn.toNatClampNeg p1))), (aO, .inl (cO, 512, .inl (upd vo vn.toNatClampNeg (-1 : Int32))))]) [0, 1, 2, 3] (by decide) rfl
    exact W.vret hx hb hr (fun t ht hW => ⟨⟨(), rfl, trivial, by rw [ht]; exact hP9, va_K.moved hW.alike hK, hD9⟩, hS.F ht⟩) hS.2.2 d_V_push_50

def f_V_isConstant (vp : Nat → Int32) (p0 : Int32) : Option (Int32) := gi p0 512 (if (vp p0.toNatClampNeg) = (-1 : Int32) then some ((1 : Int32)) else some ((0 : Int32)))
set_option maxHeartbeats 4000000 in
set_option maxRecDepth 100000 in
theorem c_V_isConstant (l : Launch) (dC : Nat → ClassId) (dI : Nat → Nat → Nat) (aV aC aP aO : Nat) (cP : ClassId) (sz : Nat) (vn : Int32) (vd : Int32) (vp : Nat → Int32) (p0 : Int32) (o : Int32) (hf : f_V_isConstant vp p0 = some o) : Met l y_V_isConstant (w_V_isConstant) ({ frames := 0, cells := 0, slots := 0, locals := 0 }) (va_Pc [.ref aV, .int p0] (fun U => U.heap.size = sz ∧ va_P (dC, dI) vwCl [(aV, .inr (6, [.ref aC, .ref aP, .ref aO, .int vn, .int vd])), (aP, .inl (cP, 512, .inl vp))] U.heap ∧ va_K (dC, dI) vwCl [(cP, .int)] U ∧ va_D (fun _ => True) [(aV, .inr (6, [.ref aC, .ref aP, .ref aO, .int vn, .int vd])), (aP, .inl (cP, 512, .inl vp))] ∧ NW U)) (va_Qi (fun (r : Int32) (_ : Unit) => r = o ∧ narrow .boolean (.int r) = .int r) (fun _ t => va_P (dC, dI) vwCl [(aV, .inr (6, [.ref aC, .ref aP, .ref aO, .int vn, .int vd])), (aP, .inl (cP, 512, .inl vp))] t.heap ∧ va_K (dC, dI) vwCl [(cP, .int)] t ∧ va_D (va_A [(aV, .inr (6, [.ref aC, .ref aP, .ref aO, .int vn, .int vd])), (aP, .inl (cP, 512, .inl vp))] sz) [(aV, .inr (6, [.ref aC, .ref aP, .ref aO, .int vn, .int vd])), (aP, .inl (cP, 512, .inl vp))]) (va_A [(aV, .inr (6, [.ref aC, .ref aP, .ref aO, .int vn, .int vd])), (aP, .inl (cP, 512, .inl vp))] sz)) 0 0 (va_A [(aV, .inr (6, [.ref aC, .ref aP, .ref aO, .int vn, .int vd])), (aP, .inl (cP, 512, .inl vp))] sz) := by
  refine Met.ofW (cc := b_V_isConstant) (maxL := 2) (ret := (some .boolean)) (by decide) rfl ?_
  intro p e s m args below meth c s₁ B hml hv
  obtain ⟨rfl, hsz, hP, hK, hD0, hN⟩ := hv
  have hx := B.exec
  have hb := B.bytes
  have hr := B.returns
  have hts : ∀ w ∈ WB, w.before _ s = true := fun w h => atoms_spec (ws := w_V_isConstant) B.pre w (List.mem_cons_of_mem _ h)
  have hown : s.vm.findClass R_V = some m.cls := findClass_of_methodNamed B.named
  have hlocks := B.notSynchronized
  subst hsz
  have hD := hD0.self (sz := s.heap.size)
  generalize hAe : va_A [(aV, .inr (6, [.ref aC, .ref aP, .ref aO, .int vn, .int vd])), (aP, .inl (cP, 512, .inl vp))] s.heap.size = A at hD ⊢
  have hA : ∀ q : Nat, s.heap.size ≤ q → A q := fun q h => by rw [← hAe]; exact Or.inr h
  have hS : va_S A s.heap s.heap [] := va_S.rf
  have hP : va_P (dC, dI) vwCl [(aV, .inr (6, [.ref aC, .ref aP, .ref aO, .int vn, .int vd])), (aP, .inl (cP, 512, .inl vp))] s.heap := hP
  have hl := lv_entry [.ref aV, .int p0] (n := 2) (Nat.le_of_ble_eq_true rfl)
  rw [lg_entry_eq]
  generalize (lg_sl [.ref aV, .int p0] ++ List.replicate (2 - (lg_sl [.ref aV, .int p0]).length) Slot.unset).toArray = ls at hl ⊢
  have hl : lv_has ls 2 [(0, .ref aV), (1, .int p0)] := hl
  rw [f_V_isConstant] at hf
  refine lv_aload_n hx hb d_V_isConstant_0 rfl (lv_at hl 0 rfl) ?_
  refine va_get (D := (dC, dI)) (ci := 6) (v := .ref aP) (C := R_V) (T := F_V) (N := 5) hx hb hts i_V hown hK hP 0 rfl rfl 1 (by decide) (hts _ wb_106) (fun _ h9 => h9) rfl d_V_isConstant_1 ?_
  refine lv_iload_n hx hb d_V_isConstant_4 rfl (lv_at hl 1 rfl) ?_
  obtain ⟨hin, hf⟩ := gi_some hf
  refine va_iald hx hb hK hP 1 0 rfl rfl hin d_V_isConstant_5 ?_
  refine lv_iconst (v := (-1 : Int32)) hx hb d_V_isConstant_6 (by decide) ?_
  refine lv_icmp_ne (tgt := 14) hx hb d_V_isConstant_7 (by decide) (fun c_1 => ?_) (fun c_1 => ?_)
  · rw [if_neg c_1] at hf
    refine lv_iconst (v := (0 : Int32)) hx hb d_V_isConstant_14 (by decide) ?_
    have ho := Option.some.inj hf
    subst o
    have hP9 := hP.sub (ws' := [(aV, .inr (6, [.ref aC, .ref aP, .ref aO, .int vn, .int vd])), (aP, .inl (cP, 512, .inl vp))]) [0, 1] rfl
    have hD9 := hD.sub (ws' := [(aV, .inr (6, [.ref aC, .ref aP, .ref aO, .int vn, .int vd])), (aP, .inl (cP, 512, .inl vp))]) [0, 1] (by decide) rfl
    exact W.zret (v := (0 : Int32)) (ty := .boolean) hx hb hr rfl (fun t ht hW => ⟨⟨(0 : Int32), (), rfl, ⟨rfl, rfl⟩, by rw [ht]; exact hP9, va_K.moved hW.alike hK, hD9⟩, hS.F ht⟩) hS.2.2 d_V_isConstant_15
  · rw [if_pos c_1] at hf
    refine lv_iconst (v := (1 : Int32)) hx hb d_V_isConstant_10 (by decide) ?_
    refine lv_goto (tgt := 15) hx hb d_V_isConstant_11 (by decide) ?_
    have ho := Option.some.inj hf
    subst o
    have hP9 := hP.sub (ws' := [(aV, .inr (6, [.ref aC, .ref aP, .ref aO, .int vn, .int vd])), (aP, .inl (cP, 512, .inl vp))]) [0, 1] rfl
    have hD9 := hD.sub (ws' := [(aV, .inr (6, [.ref aC, .ref aP, .ref aO, .int vn, .int vd])), (aP, .inl (cP, 512, .inl vp))]) [0, 1] (by decide) rfl
    exact W.zret (v := (1 : Int32)) (ty := .boolean) hx hb hr rfl (fun t ht hW => ⟨⟨(1 : Int32), (), rfl, ⟨rfl, rfl⟩, by rw [ht]; exact hP9, va_K.moved hW.alike hK, hD9⟩, hS.F ht⟩) hS.2.2 d_V_isConstant_15

def f_V_isPlace (vp : Nat → Int32) (vo : Nat → Int32) (p0 : Int32) : Option (Int32) := gi p0 512 (if (vp p0.toNatClampNeg) = (-1 : Int32) then some ((0 : Int32)) else gi p0 512 (if (vo p0.toNatClampNeg) = (-1 : Int32) then some ((1 : Int32)) else some ((0 : Int32))))
set_option maxHeartbeats 4000000 in
set_option maxRecDepth 100000 in
theorem c_V_isPlace (l : Launch) (dC : Nat → ClassId) (dI : Nat → Nat → Nat) (aV aC aP aO : Nat) (cP cO : ClassId) (sz : Nat) (vn : Int32) (vd : Int32) (vp : Nat → Int32) (vo : Nat → Int32) (p0 : Int32) (o : Int32) (hf : f_V_isPlace vp vo p0 = some o) : Met l y_V_isPlace (w_V_isPlace) ({ frames := 0, cells := 0, slots := 0, locals := 0 }) (va_Pc [.ref aV, .int p0] (fun U => U.heap.size = sz ∧ va_P (dC, dI) vwCl [(aV, .inr (6, [.ref aC, .ref aP, .ref aO, .int vn, .int vd])), (aP, .inl (cP, 512, .inl vp)), (aO, .inl (cO, 512, .inl vo))] U.heap ∧ va_K (dC, dI) vwCl [(cP, .int), (cO, .int)] U ∧ va_D (fun _ => True) [(aV, .inr (6, [.ref aC, .ref aP, .ref aO, .int vn, .int vd])), (aP, .inl (cP, 512, .inl vp)), (aO, .inl (cO, 512, .inl vo))] ∧ NW U)) (va_Qi (fun (r : Int32) (_ : Unit) => r = o ∧ narrow .boolean (.int r) = .int r) (fun _ t => va_P (dC, dI) vwCl [(aV, .inr (6, [.ref aC, .ref aP, .ref aO, .int vn, .int vd])), (aP, .inl (cP, 512, .inl vp)), (aO, .inl (cO, 512, .inl vo))] t.heap ∧ va_K (dC, dI) vwCl [(cP, .int), (cO, .int)] t ∧ va_D (va_A [(aV, .inr (6, [.ref aC, .ref aP, .ref aO, .int vn, .int vd])), (aP, .inl (cP, 512, .inl vp)), (aO, .inl (cO, 512, .inl vo))] sz) [(aV, .inr (6, [.ref aC, .ref aP, .ref aO, .int vn, .int vd])), (aP, .inl (cP, 512, .inl vp)), (aO, .inl (cO, 512, .inl vo))]) (va_A [(aV, .inr (6, [.ref aC, .ref aP, .ref aO, .int vn, .int vd])), (aP, .inl (cP, 512, .inl vp)), (aO, .inl (cO, 512, .inl vo))] sz)) 0 0 (va_A [(aV, .inr (6, [.ref aC, .ref aP, .ref aO, .int vn, .int vd])), (aP, .inl (cP, 512, .inl vp)), (aO, .inl (cO, 512, .inl vo))] sz) := by
  refine Met.ofW (cc := b_V_isPlace) (maxL := 2) (ret := (some .boolean)) (by decide) rfl ?_
  intro p e s m args below meth c s₁ B hml hv
  obtain ⟨rfl, hsz, hP, hK, hD0, hN⟩ := hv
  have hx := B.exec
  have hb := B.bytes
  have hr := B.returns
  have hts : ∀ w ∈ WB, w.before _ s = true := fun w h => atoms_spec (ws := w_V_isPlace) B.pre w (List.mem_cons_of_mem _ h)
  have hown : s.vm.findClass R_V = some m.cls := findClass_of_methodNamed B.named
  have hlocks := B.notSynchronized
  subst hsz
  have hD := hD0.self (sz := s.heap.size)
  generalize hAe : va_A [(aV, .inr (6, [.ref aC, .ref aP, .ref aO, .int vn, .int vd])), (aP, .inl (cP, 512, .inl vp)), (aO, .inl (cO, 512, .inl vo))] s.heap.size = A at hD ⊢
  have hA : ∀ q : Nat, s.heap.size ≤ q → A q := fun q h => by rw [← hAe]; exact Or.inr h
  have hS : va_S A s.heap s.heap [] := va_S.rf
  have hP : va_P (dC, dI) vwCl [(aV, .inr (6, [.ref aC, .ref aP, .ref aO, .int vn, .int vd])), (aP, .inl (cP, 512, .inl vp)), (aO, .inl (cO, 512, .inl vo))] s.heap := hP
  have hl := lv_entry [.ref aV, .int p0] (n := 2) (Nat.le_of_ble_eq_true rfl)
  rw [lg_entry_eq]
  generalize (lg_sl [.ref aV, .int p0] ++ List.replicate (2 - (lg_sl [.ref aV, .int p0]).length) Slot.unset).toArray = ls at hl ⊢
  have hl : lv_has ls 2 [(0, .ref aV), (1, .int p0)] := hl
  rw [f_V_isPlace] at hf
  refine lv_aload_n hx hb d_V_isPlace_0 rfl (lv_at hl 0 rfl) ?_
  refine va_get (D := (dC, dI)) (ci := 6) (v := .ref aP) (C := R_V) (T := F_V) (N := 5) hx hb hts i_V hown hK hP 0 rfl rfl 1 (by decide) (hts _ wb_106) (fun _ h9 => h9) rfl d_V_isPlace_1 ?_
  refine lv_iload_n hx hb d_V_isPlace_4 rfl (lv_at hl 1 rfl) ?_
  obtain ⟨hin, hf⟩ := gi_some hf
  refine va_iald hx hb hK hP 1 0 rfl rfl hin d_V_isPlace_5 ?_
  refine lv_iconst (v := (-1 : Int32)) hx hb d_V_isPlace_6 (by decide) ?_
  refine lv_icmp_eq (tgt := 24) hx hb d_V_isPlace_7 (by decide) (fun c_1 => ?_) (fun c_1 => ?_)
  · rw [if_pos c_1] at hf
    refine lv_iconst (v := (0 : Int32)) hx hb d_V_isPlace_24 (by decide) ?_
    have ho := Option.some.inj hf
    subst o
    have hP9 := hP.sub (ws' := [(aV, .inr (6, [.ref aC, .ref aP, .ref aO, .int vn, .int vd])), (aP, .inl (cP, 512, .inl vp)), (aO, .inl (cO, 512, .inl vo))]) [0, 1, 2] rfl
    have hD9 := hD.sub (ws' := [(aV, .inr (6, [.ref aC, .ref aP, .ref aO, .int vn, .int vd])), (aP, .inl (cP, 512, .inl vp)), (aO, .inl (cO, 512, .inl vo))]) [0, 1, 2] (by decide) rfl
    exact W.zret (v := (0 : Int32)) (ty := .boolean) hx hb hr rfl (fun t ht hW => ⟨⟨(0 : Int32), (), rfl, ⟨rfl, rfl⟩, by rw [ht]; exact hP9, va_K.moved hW.alike hK, hD9⟩, hS.F ht⟩) hS.2.2 d_V_isPlace_25
  · rw [if_neg c_1] at hf
    refine lv_aload_n hx hb d_V_isPlace_10 rfl (lv_at hl 0 rfl) ?_
    refine va_get (D := (dC, dI)) (ci := 6) (v := .ref aO) (C := R_V) (T := F_V) (N := 5) hx hb hts i_V hown hK hP 0 rfl rfl 2 (by decide) (hts _ wb_107) (fun _ h9 => h9) rfl d_V_isPlace_11 ?_
    refine lv_iload_n hx hb d_V_isPlace_14 rfl (lv_at hl 1 rfl) ?_
    obtain ⟨hin, hf⟩ := gi_some hf
    refine va_iald hx hb hK hP 2 1 rfl rfl hin d_V_isPlace_15 ?_
    refine lv_iconst (v := (-1 : Int32)) hx hb d_V_isPlace_16 (by decide) ?_
    refine lv_icmp_ne (tgt := 24) hx hb d_V_isPlace_17 (by decide) (fun c_2 => ?_) (fun c_2 => ?_)
    · rw [if_neg c_2] at hf
      refine lv_iconst (v := (0 : Int32)) hx hb d_V_isPlace_24 (by decide) ?_
      have ho := Option.some.inj hf
      subst o
      have hP9 := hP.sub (ws' := [(aV, .inr (6, [.ref aC, .ref aP, .ref aO, .int vn, .int vd])), (aP, .inl (cP, 512, .inl vp)), (aO, .inl (cO, 512, .inl vo))]) [0, 1, 2] rfl
      have hD9 := hD.sub (ws' := [(aV, .inr (6, [.ref aC, .ref aP, .ref aO, .int vn, .int vd])), (aP, .inl (cP, 512, .inl vp)), (aO, .inl (cO, 512, .inl vo))]) [0, 1, 2] (by decide) rfl
      exact W.zret (v := (0 : Int32)) (ty := .boolean) hx hb hr rfl (fun t ht hW => ⟨⟨(0 : Int32), (), rfl, ⟨rfl, rfl⟩, by rw [ht]; exact hP9, va_K.moved hW.alike hK, hD9⟩, hS.F ht⟩) hS.2.2 d_V_isPlace_25
    · rw [if_pos c_2] at hf
      refine lv_iconst (v := (1 : Int32)) hx hb d_V_isPlace_20 (by decide) ?_
      refine lv_goto (tgt := 25) hx hb d_V_isPlace_21 (by decide) ?_
      have ho := Option.some.inj hf
      subst o
      have hP9 := hP.sub (ws' := [(aV, .inr (6, [.ref aC, .ref aP, .ref aO, .int vn, .int vd])), (aP, .inl (cP, 512, .inl vp)), (aO, .inl (cO, 512, .inl vo))]) [0, 1, 2] rfl
      have hD9 := hD.sub (ws' := [(aV, .inr (6, [.ref aC, .ref aP, .ref aO, .int vn, .int vd])), (aP, .inl (cP, 512, .inl vp)), (aO, .inl (cO, 512, .inl vo))]) [0, 1, 2] (by decide) rfl
      exact W.zret (v := (1 : Int32)) (ty := .boolean) hx hb hr rfl (fun t ht hW => ⟨⟨(1 : Int32), (), rfl, ⟨rfl, rfl⟩, by rw [ht]; exact hP9, va_K.moved hW.alike hK, hD9⟩, hS.F ht⟩) hS.2.2 d_V_isPlace_25

def f_V_applyInFront (vn : Int32) (vd : Int32) (vc : Nat → Int64) (vp : Nat → Int32) (p0 : Int32) : Option (Int32 × (Nat → Int64)) := if p0 = (43 : Int32) then some (vd, vc) else if (0 : Int32) ≤ (vn - (1 : Int32)) then (f_V_isConstant vp (vn - (1 : Int32))).bind (fun o_3 => if o_3 = (0 : Int32) then if p0 = (45 : Int32) then gi (vn - (1 : Int32)) 512 (gi (vn - (1 : Int32)) 512 (some ((1 : Int32), vp_updL vc (vn - (1 : Int32)).toNatClampNeg (-(vc (vn - (1 : Int32)).toNatClampNeg))))) else gi (vn - (1 : Int32)) 512 (gi (vn - (1 : Int32)) 512 (some ((1 : Int32), vp_updL vc (vn - (1 : Int32)).toNatClampNeg ((vc (vn - (1 : Int32)).toNatClampNeg) ^^^ (-1 : Int64))))) else if p0 = (45 : Int32) then gi (vn - (1 : Int32)) 512 (gi (vn - (1 : Int32)) 512 (some (vd, vp_updL vc (vn - (1 : Int32)).toNatClampNeg (-(vc (vn - (1 : Int32)).toNatClampNeg))))) else gi (vn - (1 : Int32)) 512 (gi (vn - (1 : Int32)) 512 (some (vd, vp_updL vc (vn - (1 : Int32)).toNatClampNeg ((vc (vn - (1 : Int32)).toNatClampNeg) ^^^ (-1 : Int64)))))) else some (vd, vc)
set_option maxHeartbeats 4000000 in
set_option maxRecDepth 100000 in
theorem c_V_applyInFront (l : Launch) (dC : Nat → ClassId) (dI : Nat → Nat → Nat) (aV aC aP aO : Nat) (cC cP : ClassId) (sz : Nat) (vn : Int32) (vd : Int32) (vc : Nat → Int64) (vp : Nat → Int32) (p0 : Int32) (o : Int32 × (Nat → Int64)) (hf : f_V_applyInFront vn vd vc vp p0 = some o) : Met l y_V_applyInFront (w_V_applyInFront) ({ frames := 1, cells := 0, slots := 0, locals := 21 }) (va_Pc [.ref aV, .int p0] (fun U => U.heap.size = sz ∧ va_P (dC, dI) vwCl [(aV, .inr (6, [.ref aC, .ref aP, .ref aO, .int vn, .int vd])), (aC, .inl (cC, 512, .inr (.inl vc))), (aP, .inl (cP, 512, .inl vp))] U.heap ∧ va_K (dC, dI) vwCl [(cC, .long), (cP, .int)] U ∧ va_D (fun _ => True) [(aV, .inr (6, [.ref aC, .ref aP, .ref aO, .int vn, .int vd])), (aC, .inl (cC, 512, .inr (.inl vc))), (aP, .inl (cP, 512, .inl vp))] ∧ NW U)) (va_Qv (fun (_ : Unit) => True) (fun _ t => va_P (dC, dI) vwCl [(aV, .inr (6, [.ref aC, .ref aP, .ref aO, .int vn, .int o.1])), (aC, .inl (cC, 512, .inr (.inl o.2))), (aP, .inl (cP, 512, .inl vp))] t.heap ∧ va_K (dC, dI) vwCl [(cC, .long), (cP, .int)] t ∧ va_D (va_A [(aV, .inr (6, [.ref aC, .ref aP, .ref aO, .int vn, .int vd])), (aC, .inl (cC, 512, .inr (.inl vc))), (aP, .inl (cP, 512, .inl vp))] sz) [(aV, .inr (6, [.ref aC, .ref aP, .ref aO, .int vn, .int o.1])), (aC, .inl (cC, 512, .inr (.inl o.2))), (aP, .inl (cP, 512, .inl vp))]) (va_A [(aV, .inr (6, [.ref aC, .ref aP, .ref aO, .int vn, .int vd])), (aC, .inl (cC, 512, .inr (.inl vc))), (aP, .inl (cP, 512, .inl vp))] sz)) 0 0 (va_A [(aV, .inr (6, [.ref aC, .ref aP, .ref aO, .int vn, .int vd])), (aC, .inl (cC, 512, .inr (.inl vc))), (aP, .inl (cP, 512, .inl vp))] sz) := by
  refine Met.ofW (cc := b_V_applyInFront) (maxL := 3) (ret := none) (by decide) rfl ?_
  intro p e s m args below meth c s₁ B hml hv
  obtain ⟨rfl, hsz, hP, hK, hD0, hN⟩ := hv
  have hx := B.exec
  have hb := B.bytes
  have hr := B.returns
  have hts : ∀ w ∈ WB, w.before _ s = true := fun w h => atoms_spec (ws := w_V_applyInFront) B.pre w (List.mem_cons_of_mem _ h)
  have hown : s.vm.findClass R_V = some m.cls := findClass_of_methodNamed B.named
  have hlocks := B.notSynchronized
  subst hsz
  have hD := hD0.self (sz := s.heap.size)
  generalize hAe : va_A [(aV, .inr (6, [.ref aC, .ref aP, .ref aO, .int vn, .int vd])), (aC, .inl (cC, 512, .inr (.inl vc))), (aP, .inl (cP, 512, .inl vp))] s.heap.size = A at hD ⊢
  have hA : ∀ q : Nat, s.heap.size ≤ q → A q := fun q h => by rw [← hAe]; exact Or.inr h
  have hS : va_S A s.heap s.heap [] := va_S.rf
  have hP : va_P (dC, dI) vwCl [(aV, .inr (6, [.ref aC, .ref aP, .ref aO, .int vn, .int vd])), (aC, .inl (cC, 512, .inr (.inl vc))), (aP, .inl (cP, 512, .inl vp))] s.heap := hP
  have hl := lv_entry [.ref aV, .int p0] (n := 3) (Nat.le_of_ble_eq_true rfl)
  rw [lg_entry_eq]
  generalize (lg_sl [.ref aV, .int p0] ++ List.replicate (3 - (lg_sl [.ref aV, .int p0]).length) Slot.unset).toArray = ls at hl ⊢
  have hl : lv_has ls 3 [(0, .ref aV), (1, .int p0)] := hl
  rw [f_V_applyInFront] at hf
  refine lv_aload_n hx hb d_V_applyInFront_0 rfl (lv_at hl 0 rfl) ?_
  refine va_get (D := (dC, dI)) (ci := 6) (v := .int vn) (C := R_V) (T := F_V) (N := 5) hx hb hts i_V hown hK hP 0 rfl rfl 3 (by decide) (hts _ wb_103) (fun _ h9 => h9) rfl d_V_applyInFront_1 ?_
  refine lv_iconst (v := (1 : Int32)) hx hb d_V_applyInFront_4 (by decide) ?_
  refine lv_isub hx hb d_V_applyInFront_5 ?_
  refine lv_istore_n (lv' := [(2, .int (vn - (1 : Int32))), (0, .ref aV), (1, .int p0)]) hx hb d_V_applyInFront_6 rfl hl (by decide) rfl (fun ls hl => ?_)
  refine lv_iload_n hx hb d_V_applyInFront_7 rfl (lv_at hl 2 rfl) ?_
  refine lv_bipush (v := (43 : Int32)) hx hb d_V_applyInFront_8 (by decide) ?_
  refine lv_icmp_eq (tgt := 17) hx hb d_V_applyInFront_10 (by decide) (fun c_1 => ?_) (fun c_1 => ?_)
  · rw [if_pos c_1] at hf
    have ho := Option.some.inj hf
    subst o
    have hP9 := hP.sub (ws' := [(aV, .inr (6, [.ref aC, .ref aP, .ref aO, .int vn, .int vd])), (aC, .inl (cC, 512, .inr (.inl vc))), (aP, .inl (cP, 512, .inl vp))]) [0, 1, 2] rfl
    have hD9 := hD.sub (ws' := [(aV, .inr (6, [.ref aC, .ref aP, .ref aO, .int vn, .int vd])), (aC, .inl (cC, 512, .inr (.inl vc))), (aP, .inl (cP, 512, .inl vp))]) [0, 1, 2] (by decide) rfl
    exact W.vret hx hb hr (fun t ht hW => ⟨⟨(), rfl, trivial, by rw [ht]; exact hP9, va_K.moved hW.alike hK, hD9⟩, hS.F ht⟩) hS.2.2 d_V_applyInFront_17
  · rw [if_neg c_1] at hf
    refine lv_iload_n hx hb d_V_applyInFront_13 rfl (lv_at hl 0 rfl) ?_
    refine lv_if_ge (tgt := 18) hx hb d_V_applyInFront_14 (by decide) (fun c_2 => ?_) (fun c_2 => ?_)
    · rw [if_pos c_2] at hf
      refine lv_aload_n hx hb d_V_applyInFront_18 rfl (lv_at hl 1 rfl) ?_
      refine lv_iload_n hx hb d_V_applyInFront_19 rfl (lv_at hl 0 rfl) ?_
      obtain ⟨o_3, hM_3, hf⟩ := bd_some hf
      refine cr_i (va_runV (As := [.int (vn - (1 : Int32))]) (rest := []) ⟨hx, hb, hml, hown, hts⟩ (c_V_isConstant l dC dI aV aC aP aO cP s.heap.size vn vd vp (vn - (1 : Int32)) o_3 hM_3) (cwV 1 hts (gwV wb_108 wb_110 wb_111 wb_112 wb_109) rfl rfl rfl (by decide +kernel) ⟨Nat.le_of_ble_eq_true rfl, Nat.le_of_ble_eq_true rfl⟩) (pr_V (hP.sub [0, 2] rfl) (hD.sub [0, 2] (by decide) rfl) hK hN [1] rfl (ci := 6) rfl rfl rfl) rfl rfl hl.1 rfl (lv_room (Nat.le_of_ble_eq_true rfl)) d_V_applyInFront_20 ⟨Nat.zero_le _, Nat.zero_le _⟩) hP hD hS hA (in_of [0, 2] rfl) (fun r_3 H locs hw hP hS => ?_)
      obtain ⟨hw, hz_3⟩ := hw
      subst r_3
      refine lv_if_ne (tgt := 31) hx hb d_V_applyInFront_23 (by decide) (fun c_4 => ?_) (fun c_4 => ?_)
      · rw [if_neg c_4] at hf
        refine lv_aload_n hx hb d_V_applyInFront_31 rfl (lv_at hl 1 rfl) ?_
        refine va_get (D := (dC, dI)) (ci := 6) (v := .ref aC) (C := R_V) (T := F_V) (N := 5) hx hb hts i_V hown hK hP 0 rfl rfl 0 (by decide) (hts _ wb_105) (fun _ h9 => h9) rfl d_V_applyInFront_32 ?_
        refine lv_iload_n hx hb d_V_applyInFront_35 rfl (lv_at hl 0 rfl) ?_
        refine lv_iload_n hx hb d_V_applyInFront_36 rfl (lv_at hl 2 rfl) ?_
        refine lv_bipush (v := (45 : Int32)) hx hb d_V_applyInFront_37 (by decide) ?_
        refine lv_icmp_ne (tgt := 52) hx hb d_V_applyInFront_39 (by decide) (fun c_5 => ?_) (fun c_5 => ?_)
        · rw [if_neg c_5] at hf
          refine lv_aload_n hx hb d_V_applyInFront_52 rfl (lv_at hl 1 rfl) ?_
          refine va_get (D := (dC, dI)) (ci := 6) (v := .ref aC) (C := R_V) (T := F_V) (N := 5) hx hb hts i_V hown hK hP 0 rfl rfl 0 (by decide) (hts _ wb_105) (fun _ h9 => h9) rfl d_V_applyInFront_53 ?_
          refine lv_iload_n hx hb d_V_applyInFront_56 rfl (lv_at hl 0 rfl) ?_
          obtain ⟨hin, hf⟩ := gi_some hf
          refine va_lald hx hb hK hP 1 0 rfl rfl hin d_V_applyInFront_57 ?_
          refine lv_ldc2 (v := (-1 : Int64)) hx hb hown (hts _ wb_113) d_V_applyInFront_58 ?_
          refine lv_lxor hx hb d_V_applyInFront_61 ?_
          obtain ⟨hin, hf⟩ := gi_some hf
          refine va_last hx hb hK hP hD hS 1 0 rfl rfl hin d_V_applyInFront_62 (fun H locs hP hD hS => ?_)
          have hP : va_P (dC, dI) vwCl [(aV, .inr (6, [.ref aC, .ref aP, .ref aO, .int vn, .int vd])), (aC, .inl (cC, 512, .inr (.inl (vp_updL vc (vn - (1 : Int32)).toNatClampNeg ((vc (vn - (1 : Int32)).toNatClampNeg) ^^^ (-1 : Int64)))))), (aP, .inl (cP, 512, .inl vp))] H := hP
          have hD : va_D A [(aV, .inr (6, [.ref aC, .ref aP, .ref aO, .int vn, .int vd])), (aC, .inl (cC, 512, .inr (.inl (vp_updL vc (vn - (1 : Int32)).toNatClampNeg ((vc (vn - (1 : Int32)).toNatClampNeg) ^^^ (-1 : Int64)))))), (aP, .inl (cP, 512, .inl vp))] := hD
          have ho := Option.some.inj hf
          subst o
          have hP9 := hP.sub (ws' := [(aV, .inr (6, [.ref aC, .ref aP, .ref aO, .int vn, .int vd])), (aC, .inl (cC, 512, .inr (.inl (vp_updL vc (vn - (1 : Int32)).toNatClampNeg ((vc (vn - (1 : Int32)).toNatClampNeg) ^^^ (-1 : Int64)))))), (aP, .inl (cP, 512, .inl vp))]) [0, 1, 2] rfl
          have hD9 := hD.sub (ws' := [(aV, .inr (6, [.ref aC, .ref aP, .ref aO, .int vn, .int vd])), (aC, .inl (cC, 512, .inr (.inl (vp_updL vc (vn - (1 : Int32)).toNatClampNeg ((vc (vn - (1 : Int32)).toNatClampNeg) ^^^ (-1 : Int64)))))), (aP, .inl (cP, 512, .inl vp))]) [0, 1, 2] (by decide) rfl
          exact W.vret hx hb hr (fun t ht hW => ⟨⟨(), rfl, trivial, by rw [ht]; exact hP9, va_K.moved hW.alike hK, hD9⟩, hS.F ht⟩) hS.2.2 d_V_applyInFront_63
        · rw [if_pos c_5] at hf
          refine lv_aload_n hx hb d_V_applyInFront_42 rfl (lv_at hl 1 rfl) ?_
          refine va_get (D := (dC, dI)) (ci := 6) (v := .ref aC) (C := R_V) (T := F_V) (N := 5) hx hb hts i_V hown hK hP 0 rfl rfl 0 (by decide) (hts _ wb_105) (fun _ h9 => h9) rfl d_V_applyInFront_43 ?_
          refine lv_iload_n hx hb d_V_applyInFront_46 rfl (lv_at hl 0 rfl) ?_
          obtain ⟨hin, hf⟩ := gi_some hf
          refine va_lald hx hb hK hP 1 0 rfl rfl hin d_V_applyInFront_47 ?_
          refine lv_lneg hx hb d_V_applyInFront_48 ?_
          refine lv_goto (tgt := 62) hx hb d_V_applyInFront_49 (by decide) ?_
          obtain ⟨hin, hf⟩ := gi_some hf
          refine va_last hx hb hK hP hD hS 1 0 rfl rfl hin d_V_applyInFront_62 (fun H locs hP hD hS => ?_)
          have hP : va_P (dC, dI) vwCl [(aV, .inr (6, [.ref aC, .ref aP, .ref aO, .int vn, .int vd])), (aC, .inl (cC, 512, .inr (.inl (vp_updL vc (vn - (1 : Int32)).toNatClampNeg (-(vc (vn - (1 : Int32)).toNatClampNeg)))))), (aP, .inl (cP, 512, .inl vp))] H := hP
          have hD : va_D A [(aV, .inr (6, [.ref aC, .ref aP, .ref aO, .int vn, .int vd])), (aC, .inl (cC, 512, .inr (.inl (vp_updL vc (vn - (1 : Int32)).toNatClampNeg (-(vc (vn - (1 : Int32)).toNatClampNeg)))))), (aP, .inl (cP, 512, .inl vp))] := hD
          have ho := Option.some.inj hf
          subst o
          have hP9 := hP.sub (ws' := [(aV, .inr (6, [.ref aC, .ref aP, .ref aO, .int vn, .int vd])), (aC, .inl (cC, 512, .inr (.inl (vp_updL vc (vn - (1 : Int32)).toNatClampNeg (-(vc (vn - (1 : Int32)).toNatClampNeg)))))), (aP, .inl (cP, 512, .inl vp))]) [0, 1, 2] rfl
          have hD9 := hD.sub (ws' := [(aV, .inr (6, [.ref aC, .ref aP, .ref aO, .int vn, .int vd])), (aC, .inl (cC, 512, .inr (.inl (vp_updL vc (vn - (1 : Int32)).toNatClampNeg (-(vc (vn - (1 : Int32)).toNatClampNeg)))))), (aP, .inl (cP, 512, .inl vp))]) [0, 1, 2] (by decide) rfl
          exact W.vret hx hb hr (fun t ht hW => ⟨⟨(), rfl, trivial, by rw [ht]; exact hP9, va_K.moved hW.alike hK, hD9⟩, hS.F ht⟩) hS.2.2 d_V_applyInFront_63
      · rw [if_pos c_4] at hf
        refine lv_aload_n hx hb d_V_applyInFront_26 rfl (lv_at hl 1 rfl) ?_
        refine lv_iconst (v := (1 : Int32)) hx hb d_V_applyInFront_27 (by decide) ?_
        refine va_put (D := (dC, dI)) (ci := 6) (v := .int (1 : Int32)) (ty := .boolean) (C := R_V) (T := F_V) (N := 5) hx hb hts i_V ft_V tk_V n_V hown hK hP hD hS 0 rfl rfl 4 (by decide) (hts _ wb_104) (fun _ h9 => h9) rfl (by decide +kernel) rfl rfl (Nat.le_of_ble_eq_true rfl) d_V_applyInFront_28 (fun H locs hP hD hS => ?_)
        have hP : va_P (dC, dI) vwCl [(aV, .inr (6, [.ref aC, .ref aP, .ref aO, .int vn, .int (1 : Int32)])), (aC, .inl (cC, 512, .inr (.inl vc))), (aP, .inl (cP, 512, .inl vp))] H := hP
        have hD : va_D A [(aV, .inr (6, [.ref aC, .ref aP, .ref aO, .int vn, .int (1 : Int32)])), (aC, .inl (cC, 512, .inr (.inl vc))), (aP, .inl (cP, 512, .inl vp))] := hD
        refine lv_aload_n hx hb d_V_applyInFront_31 rfl (lv_at hl 1 rfl) ?_
        refine va_get (D := (dC, dI)) (ci := 6) (v := .ref aC) (C := R_V) (T := F_V) (N := 5) hx hb hts i_V hown hK hP 0 rfl rfl 0 (by decide) (hts _ wb_105) (fun _ h9 => h9) rfl d_V_applyInFront_32 ?_
        refine lv_iload_n hx hb d_V_applyInFront_35 rfl (lv_at hl 0 rfl) ?_
        refine lv_iload_n hx hb d_V_applyInFront_36 rfl (lv_at hl 2 rfl) ?_
        refine lv_bipush (v := (45 : Int32)) hx hb d_V_applyInFront_37 (by decide) ?_
        refine lv_icmp_ne (tgt := 52) hx hb d_V_applyInFront_39 (by decide) (fun c_6 => ?_) (fun c_6 => ?_)
        · rw [if_neg c_6] at hf
          refine lv_aload_n hx hb d_V_applyInFront_52 rfl (lv_at hl 1 rfl) ?_
          refine va_get (D := (dC, dI)) (ci := 6) (v := .ref aC) (C := R_V) (T := F_V) (N := 5) hx hb hts i_V hown hK hP 0 rfl rfl 0 (by decide) (hts _ wb_105) (fun _ h9 => h9) rfl d_V_applyInFront_53 ?_
          refine lv_iload_n hx hb d_V_applyInFront_56 rfl (lv_at hl 0 rfl) ?_
          obtain ⟨hin, hf⟩ := gi_some hf
          refine va_lald hx hb hK hP 1 0 rfl rfl hin d_V_applyInFront_57 ?_
          refine lv_ldc2 (v := (-1 : Int64)) hx hb hown (hts _ wb_113) d_V_applyInFront_58 ?_
          refine lv_lxor hx hb d_V_applyInFront_61 ?_
          obtain ⟨hin, hf⟩ := gi_some hf
          refine va_last hx hb hK hP hD hS 1 0 rfl rfl hin d_V_applyInFront_62 (fun H locs hP hD hS => ?_)
          have hP : va_P (dC, dI) vwCl [(aV, .inr (6, [.ref aC, .ref aP, .ref aO, .int vn, .int (1 : Int32)])), (aC, .inl (cC, 512, .inr (.inl (vp_updL vc (vn - (1 : Int32)).toNatClampNeg ((vc (vn - (1 : Int32)).toNatClampNeg) ^^^ (-1 : Int64)))))), (aP, .inl (cP, 512, .inl vp))] H := hP
          have hD : va_D A [(aV, .inr (6, [.ref aC, .ref aP, .ref aO, .int vn, .int (1 : Int32)])), (aC, .inl (cC, 512, .inr (.inl (vp_updL vc (vn - (1 : Int32)).toNatClampNeg ((vc (vn - (1 : Int32)).toNatClampNeg) ^^^ (-1 : Int64)))))), (aP, .inl (cP, 512, .inl vp))] := hD
          have ho := Option.some.inj hf
          subst o
          have hP9 := hP.sub (ws' := [(aV, .inr (6, [.ref aC, .ref aP, .ref aO, .int vn, .int (1 : Int32)])), (aC, .inl (cC, 512, .inr (.inl (vp_updL vc (vn - (1 : Int32)).toNatClampNeg ((vc (vn - (1 : Int32)).toNatClampNeg) ^^^ (-1 : Int64)))))), (aP, .inl (cP, 512, .inl vp))]) [0, 1, 2] rfl
          have hD9 := hD.sub (ws' := [(aV, .inr (6, [.ref aC, .ref aP, .ref aO, .int vn, .int (1 : Int32)])), (aC, .inl (cC, 512, .inr (.inl (vp_updL vc (vn - (1 : Int32)).toNatClampNeg ((vc (vn - (1 : Int32)).toNatClampNeg) ^^^ (-1 : Int64)))))), (aP, .inl (cP, 512, .inl vp))]) [0, 1, 2] (by decide) rfl
          exact W.vret hx hb hr (fun t ht hW => ⟨⟨(), rfl, trivial, by rw [ht]; exact hP9, va_K.moved hW.alike hK, hD9⟩, hS.F ht⟩) hS.2.2 d_V_applyInFront_63
        · rw [if_pos c_6] at hf
          refine lv_aload_n hx hb d_V_applyInFront_42 rfl (lv_at hl 1 rfl) ?_
          refine va_get (D := (dC, dI)) (ci := 6) (v := .ref aC) (C := R_V) (T := F_V) (N := 5) hx hb hts i_V hown hK hP 0 rfl rfl 0 (by decide) (hts _ wb_105) (fun _ h9 => h9) rfl d_V_applyInFront_43 ?_
          refine lv_iload_n hx hb d_V_applyInFront_46 rfl (lv_at hl 0 rfl) ?_
          obtain ⟨hin, hf⟩ := gi_some hf
          refine va_lald hx hb hK hP 1 0 rfl rfl hin d_V_applyInFront_47 ?_
          refine lv_lneg hx hb d_V_applyInFront_48 ?_
          refine lv_goto (tgt := 62) hx hb d_V_applyInFront_49 (by decide) ?_
          obtain ⟨hin, hf⟩ := gi_some hf
          refine va_last hx hb hK hP hD hS 1 0 rfl rfl hin d_V_applyInFront_62 (fun H locs hP hD hS => ?_)
          have hP : va_P (dC, dI) vwCl [(aV, .inr (6, [.ref aC, .ref aP, .ref aO, .int vn, .int (1 : Int32)])), (aC, .inl (cC, 512, .inr (.inl (vp_updL vc (vn - (1 : Int32)).toNatClampNeg (-(vc (vn - (1 : Int32)).toNatClampNeg)))))), (aP, .inl (cP, 512, .inl vp))] H := hP
          have hD : va_D A [(aV, .inr (6, [.ref aC, .ref aP, .ref aO, .int vn, .int (1 : Int32)])), (aC, .inl (cC, 512, .inr (.inl (vp_updL vc (vn - (1 : Int32)).toNatClampNeg (-(vc (vn - (1 : Int32)).toNatClampNeg)))))), (aP, .inl (cP, 512, .inl vp))] := hD
          have ho := Option.some.inj hf
          subst o
          have hP9 := hP.sub (ws' := [(aV, .inr (6, [.ref aC, .ref aP, .ref aO, .int vn, .int (1 : Int32)])), (aC, .inl (cC, 512, .inr (.inl (vp_updL vc (vn - (1 : Int32)).toNatClampNeg (-(vc (vn - (1 : Int32)).toNatClampNeg)))))), (aP, .inl (cP, 512, .inl vp))]) [0, 1, 2] rfl
          have hD9 := hD.sub (ws' := [(aV, .inr (6, [.ref aC, .ref aP, .ref aO, .int vn, .int (1 : Int32)])), (aC, .inl (cC, 512, .inr (.inl (vp_updL vc (vn - (1 : Int32)).toNatClampNeg (-(vc (vn - (1 : Int32)).toNatClampNeg)))))), (aP, .inl (cP, 512, .inl vp))]) [0, 1, 2] (by decide) rfl
          exact W.vret hx hb hr (fun t ht hW => ⟨⟨(), rfl, trivial, by rw [ht]; exact hP9, va_K.moved hW.alike hK, hD9⟩, hS.F ht⟩) hS.2.2 d_V_applyInFront_63
    · rw [if_neg c_2] at hf
      have ho := Option.some.inj hf
      subst o
      have hP9 := hP.sub (ws' := [(aV, .inr (6, [.ref aC, .ref aP, .ref aO, .int vn, .int vd])), (aC, .inl (cC, 512, .inr (.inl vc))), (aP, .inl (cP, 512, .inl vp))]) [0, 1, 2] rfl
      have hD9 := hD.sub (ws' := [(aV, .inr (6, [.ref aC, .ref aP, .ref aO, .int vn, .int vd])), (aC, .inl (cC, 512, .inr (.inl vc))), (aP, .inl (cP, 512, .inl vp))]) [0, 1, 2] (by decide) rfl
      exact W.vret hx hb hr (fun t ht hW => ⟨⟨(), rfl, trivial, by rw [ht]; exact hP9, va_K.moved hW.alike hK, hD9⟩, hS.F ht⟩) hS.2.2 d_V_applyInFront_17

def f_V_add (vd : Int32) (vc : Nat → Int64) (vp : Nat → Int32) (vo : Nat → Int32) (p0 : Int32) (p1 : Int32) : Option (Int32 × (Nat → Int64) × (Nat → Int32) × (Nat → Int32)) := (f_V_isConstant vp p0).bind (fun o_1 => if o_1 = (0 : Int32) then (f_V_isConstant vp p1).bind (fun o_3 => if o_3 = (0 : Int32) then gi p0 512 (gi p1 512 (gi p0 512 (some ((1 : Int32), vp_updL vc p0.toNatClampNeg ((vc p0.toNatClampNeg) + (vc p1.toNatClampNeg)), vp, vo)))) else gi p0 512 (gi p1 512 (gi p0 512 (some (vd, vp_updL vc p0.toNatClampNeg ((vc p0.toNatClampNeg) + (vc p1.toNatClampNeg)), vp, vo))))) else gi p1 512 (gi p0 512 (gi p1 512 (gi p0 512 (gi p0 512 (gi p1 512 (gi p0 512 (some (vd, vp_updL vc p0.toNatClampNeg ((vc p0.toNatClampNeg) + (vc p1.toNatClampNeg)), upd vp p0.toNatClampNeg (vp p1.toNatClampNeg), upd vo p0.toNatClampNeg (vo p1.toNatClampNeg))))))))))
set_option maxHeartbeats 4000000 in
set_option maxRecDepth 100000 in
theorem c_V_add (l : Launch) (dC : Nat → ClassId) (dI : Nat → Nat → Nat) (aV aC aP aO : Nat) (cC cP cO : ClassId) (sz : Nat) (vn : Int32) (vd : Int32) (vc : Nat → Int64) (vp : Nat → Int32) (vo : Nat → Int32) (p0 : Int32) (p1 : Int32) (o : Int32 × (Nat → Int64) × (Nat → Int32) × (Nat → Int32)) (hf : f_V_add vd vc vp vo p0 p1 = some o) : Met l y_V_add (w_V_add) ({ frames := 1, cells := 0, slots := 0, locals := 21 }) (va_Pc [.ref aV, .int p0, .int p1] (fun U => U.heap.size = sz ∧ va_P (dC, dI) vwCl [(aV, .inr (6, [.ref aC, .ref aP, .ref aO, .int vn, .int vd])), (aC, .inl (cC, 512, .inr (.inl vc))), (aP, .inl (cP, 512, .inl vp)), (aO, .inl (cO, 512, .inl vo))] U.heap ∧ va_K (dC, dI) vwCl [(cC, .long), (cP, .int), (cO, .int)] U ∧ va_D (fun _ => True) [(aV, .inr (6, [.ref aC, .ref aP, .ref aO, .int vn, .int vd])), (aC, .inl (cC, 512, .inr (.inl vc))), (aP, .inl (cP, 512, .inl vp)), (aO, .inl (cO, 512, .inl vo))] ∧ NW U)) (va_Qv (fun (_ : Unit) => True) (fun _ t => va_P (dC, dI) vwCl [(aV, .inr (6, [.ref aC, .ref aP, .ref aO, .int vn, .int o.1])), (aC, .inl (cC, 512, .inr (.inl o.2.1))), (aP, .inl (cP, 512, .inl o.2.2.1)), (aO, .inl (cO, 512, .inl o.2.2.2))] t.heap ∧ va_K (dC, dI) vwCl [(cC, .long), (cP, .int), (cO, .int)] t ∧ va_D (va_A [(aV, .inr (6, [.ref aC, .ref aP, .ref aO, .int vn, .int vd])), (aC, .inl (cC, 512, .inr (.inl vc))), (aP, .inl (cP, 512, .inl vp)), (aO, .inl (cO, 512, .inl vo))] sz) [(aV, .inr (6, [.ref aC, .ref aP, .ref aO, .int vn, .int o.1])), (aC, .inl (cC, 512, .inr (.inl o.2.1))), (aP, .inl (cP, 512, .inl o.2.2.1)), (aO, .inl (cO, 512, .inl o.2.2.2))]) (va_A [(aV, .inr (6, [.ref aC, .ref aP, .ref aO, .int vn, .int vd])), (aC, .inl (cC, 512, .inr (.inl vc))), (aP, .inl (cP, 512, .inl vp)), (aO, .inl (cO, 512, .inl vo))] sz)) 0 0 (va_A [(aV, .inr (6, [.ref aC, .ref aP, .ref aO, .int vn, .int vd])), (aC, .inl (cC, 512, .inr (.inl vc))), (aP, .inl (cP, 512, .inl vp)), (aO, .inl (cO, 512, .inl vo))] sz) := by
  refine Met.ofW (cc := b_V_add) (maxL := 3) (ret := none) (by decide) rfl ?_
  intro p e s m args below meth c s₁ B hml hv
  obtain ⟨rfl, hsz, hP, hK, hD0, hN⟩ := hv
  have hx := B.exec
  have hb := B.bytes
  have hr := B.returns
  have hts : ∀ w ∈ WB, w.before _ s = true := fun w h => atoms_spec (ws := w_V_add) B.pre w (List.mem_cons_of_mem _ h)
  have hown : s.vm.findClass R_V = some m.cls := findClass_of_methodNamed B.named
  have hlocks := B.notSynchronized
  subst hsz
  have hD := hD0.self (sz := s.heap.size)
  generalize hAe : va_A [(aV, .inr (6, [.ref aC, .ref aP, .ref aO, .int vn, .int vd])), (aC, .inl (cC, 512, .inr (.inl vc))), (aP, .inl (cP, 512, .inl vp)), (aO, .inl (cO, 512, .inl vo))] s.heap.size = A at hD ⊢
  have hA : ∀ q : Nat, s.heap.size ≤ q → A q := fun q h => by rw [← hAe]; exact Or.inr h
  have hS : va_S A s.heap s.heap [] := va_S.rf
  have hP : va_P (dC, dI) vwCl [(aV, .inr (6, [.ref aC, .ref aP, .ref aO, .int vn, .int vd])), (aC, .inl (cC, 512, .inr (.inl vc))), (aP, .inl (cP, 512, .inl vp)), (aO, .inl (cO, 512, .inl vo))] s.heap := hP
  have hl := lv_entry [.ref aV, .int p0, .int p1] (n := 3) (Nat.le_of_ble_eq_true rfl)
  rw [lg_entry_eq]
  generalize (lg_sl [.ref aV, .int p0, .int p1] ++ List.replicate (3 - (lg_sl [.ref aV, .int p0, .int p1]).length) Slot.unset).toArray = ls at hl ⊢
  have hl : lv_has ls 3 [(0, .ref aV), (1, .int p0), (2, .int p1)] := hl
  rw [f_V_add] at hf
  refine lv_aload_n hx hb d_V_add_0 rfl (lv_at hl 0 rfl) ?_
  refine lv_iload_n hx hb d_V_add_1 rfl (lv_at hl 1 rfl) ?_
  obtain ⟨o_1, hM_1, hf⟩ := bd_some hf
  refine cr_i (va_runV (As := [.int p0]) (rest := []) ⟨hx, hb, hml, hown, hts⟩ (c_V_isConstant l dC dI aV aC aP aO cP s.heap.size vn vd vp p0 o_1 hM_1) (cwV 1 hts (gwV wb_108 wb_110 wb_111 wb_112 wb_109) rfl rfl rfl (by decide +kernel) ⟨Nat.le_of_ble_eq_true rfl, Nat.le_of_ble_eq_true rfl⟩) (pr_V (hP.sub [0, 2] rfl) (hD.sub [0, 2] (by decide) rfl) hK hN [1] rfl (ci := 6) rfl rfl rfl) rfl rfl hl.1 rfl (lv_room (Nat.le_of_ble_eq_true rfl)) d_V_add_2 ⟨Nat.zero_le _, Nat.zero_le _⟩) hP hD hS hA (in_of [0, 2] rfl) (fun r_1 H locs hw hP hS => ?_)
  obtain ⟨hw, hz_1⟩ := hw
  subst r_1
  refine lv_if_eq (tgt := 35) hx hb d_V_add_5 (by decide) (fun c_2 => ?_) (fun c_2 => ?_)
  · rw [if_pos c_2] at hf
    refine lv_aload_n hx hb d_V_add_35 rfl (lv_at hl 0 rfl) ?_
    refine lv_iload_n hx hb d_V_add_36 rfl (lv_at hl 2 rfl) ?_
    obtain ⟨o_3, hM_3, hf⟩ := bd_some hf
    refine cr_i (va_runV (As := [.int p1]) (rest := []) ⟨hx, hb, hml, hown, hts⟩ (c_V_isConstant l dC dI aV aC aP aO cP H.size vn vd vp p1 o_3 hM_3) (cwV 1 hts (gwV wb_108 wb_110 wb_111 wb_112 wb_109) rfl rfl rfl (by decide +kernel) ⟨Nat.le_of_ble_eq_true rfl, Nat.le_of_ble_eq_true rfl⟩) (pr_V (hP.sub [0, 2] rfl) (hD.sub [0, 2] (by decide) rfl) hK hN [1] rfl (ci := 6) rfl rfl rfl) rfl rfl hl.1 rfl (lv_room (Nat.le_of_ble_eq_true rfl)) d_V_add_37 ⟨Nat.zero_le _, Nat.zero_le _⟩) hP hD hS hA (in_of [0, 2] rfl) (fun r_3 H locs hw hP hS => ?_)
    obtain ⟨hw, hz_3⟩ := hw
    subst r_3
    refine lv_if_ne (tgt := 48) hx hb d_V_add_40 (by decide) (fun c_4 => ?_) (fun c_4 => ?_)
    · rw [if_neg c_4] at hf
      refine lv_aload_n hx hb d_V_add_48 rfl (lv_at hl 0 rfl) ?_
      refine va_get (D := (dC, dI)) (ci := 6) (v := .ref aC) (C := R_V) (T := F_V) (N := 5) hx hb hts i_V hown hK hP 0 rfl rfl 0 (by decide) (hts _ wb_105) (fun _ h9 => h9) rfl d_V_add_49 ?_
      refine lv_iload_n hx hb d_V_add_52 rfl (lv_at hl 1 rfl) ?_
      refine lv_dup2_11 hx hb d_V_add_53 rfl rfl ?_
      obtain ⟨hin, hf⟩ := gi_some hf
      refine va_lald hx hb hK hP 1 0 rfl rfl hin d_V_add_54 ?_
      refine lv_aload_n hx hb d_V_add_55 rfl (lv_at hl 0 rfl) ?_
      refine va_get (D := (dC, dI)) (ci := 6) (v := .ref aC) (C := R_V) (T := F_V) (N := 5) hx hb hts i_V hown hK hP 0 rfl rfl 0 (by decide) (hts _ wb_105) (fun _ h9 => h9) rfl d_V_add_56 ?_
      refine lv_iload_n hx hb d_V_add_59 rfl (lv_at hl 2 rfl) ?_
      obtain ⟨hin, hf⟩ := gi_some hf
      refine va_lald hx hb hK hP 1 0 rfl rfl hin d_V_add_60 ?_
      refine lv_ladd hx hb d_V_add_61 ?_
      obtain ⟨hin, hf⟩ := gi_some hf
      refine va_last hx hb hK hP hD hS 1 0 rfl rfl hin d_V_add_62 (fun H locs hP hD hS => ?_)
      have hP : va_P (dC, dI) vwCl [(aV, .inr (6, [.ref aC, .ref aP, .ref aO, .int vn, .int vd])), (aC, .inl (cC, 512, .inr (.inl (vp_updL vc p0.toNatClampNeg ((vc p0.toNatClampNeg) + (vc p1.toNatClampNeg)))))), (aP, .inl (cP, 512, .inl vp)), (aO, .inl (cO, 512, .inl vo))] H := hP
      have hD : va_D A [(aV, .inr (6, [.ref aC, .ref aP, .ref aO, .int vn, .int vd])), (aC, .inl (cC, 512, .inr (.inl (vp_updL vc p0.toNatClampNeg ((vc p0.toNatClampNeg) + (vc p1.toNatClampNeg)))))), (aP, .inl (cP, 512, .inl vp)), (aO, .inl (cO, 512, .inl vo))] := hD
      have ho := Option.some.inj hf
      subst o
      have hP9 := hP.sub (ws' := [(aV, .inr (6, [.ref aC, .ref aP, .ref aO, .int vn, .int vd])), (aC, .inl (cC, 512, .inr (.inl (vp_updL vc p0.toNatClampNeg ((vc p0.toNatClampNeg) + (vc p1.toNatClampNeg)))))), (aP, .inl (cP, 512, .inl vp)), (aO, .inl (cO, 512, .inl vo))]) [0, 1, 2, 3] rfl
      have hD9 := hD.sub (ws' := [(aV, .inr (6, [.ref aC, .ref aP, .ref aO, .int vn, .int vd])), (aC, .inl (cC, 512, .inr (.inl (vp_updL vc p0.toNatClampNeg ((vc p0.toNatClampNeg) + (vc p1.toNatClampNeg)))))), (aP, .inl (cP, 512, .inl vp)), (aO, .inl (cO, 512, .inl vo))]) [0, 1, 2, 3] (by decide) rfl
      exact W.vret hx hb hr (fun t ht hW => ⟨⟨(), rfl, trivial, by rw [ht]; exact hP9, va_K.moved hW.alike hK, hD9⟩, hS.F ht⟩) hS.2.2 d_V_add_63
    · rw [if_pos c_4] at hf
      refine lv_aload_n hx hb d_V_add_43 rfl (lv_at hl 0 rfl) ?_
      refine lv_iconst (v := (1 : Int32)) hx hb d_V_add_44 (by decide) ?_
      refine va_put (D := (dC, dI)) (ci := 6) (v := .int (1 : Int32)) (ty := .boolean) (C := R_V) (T := F_V) (N := 5) hx hb hts i_V ft_V tk_V n_V hown hK hP hD hS 0 rfl rfl 4 (by decide) (hts _ wb_104) (fun _ h9 => h9) rfl (by decide +kernel) rfl rfl (Nat.le_of_ble_eq_true rfl) d_V_add_45 (fun H locs hP hD hS => ?_)
      have hP : va_P (dC, dI) vwCl [(aV, .inr (6, [.ref aC, .ref aP, .ref aO, .int vn, .int (1 : Int32)])), (aC, .inl (cC, 512, .inr (.inl vc))), (aP, .inl (cP, 512, .inl vp)), (aO, .inl (cO, 512, .inl vo))] H := hP
      have hD : va_D A [(aV, .inr (6, [.ref aC, .ref aP, .ref aO, .int vn, .int (1 : Int32)])), (aC, .inl (cC, 512, .inr (.inl vc))), (aP, .inl (cP, 512, .inl vp)), (aO, .inl (cO, 512, .inl vo))] := hD
      refine lv_aload_n hx hb d_V_add_48 rfl (lv_at hl 0 rfl) ?_
      refine va_get (D := (dC, dI)) (ci := 6) (v := .ref aC) (C := R_V) (T := F_V) (N := 5) hx hb hts i_V hown hK hP 0 rfl rfl 0 (by decide) (hts _ wb_105) (fun _ h9 => h9) rfl d_V_add_49 ?_
      refine lv_iload_n hx hb d_V_add_52 rfl (lv_at hl 1 rfl) ?_
      refine lv_dup2_11 hx hb d_V_add_53 rfl rfl ?_
      obtain ⟨hin, hf⟩ := gi_some hf
      refine va_lald hx hb hK hP 1 0 rfl rfl hin d_V_add_54 ?_
      refine lv_aload_n hx hb d_V_add_55 rfl (lv_at hl 0 rfl) ?_
      refine va_get (D := (dC, dI)) (ci := 6) (v := .ref aC) (C := R_V) (T := F_V) (N := 5) hx hb hts i_V hown hK hP 0 rfl rfl 0 (by decide) (hts _ wb_105) (fun _ h9 => h9) rfl d_V_add_56 ?_
      refine lv_iload_n hx hb d_V_add_59 rfl (lv_at hl 2 rfl) ?_
      obtain ⟨hin, hf⟩ := gi_some hf
      refine va_lald hx hb hK hP 1 0 rfl rfl hin d_V_add_60 ?_
      refine lv_ladd hx hb d_V_add_61 ?_
      obtain ⟨hin, hf⟩ := gi_some hf
      refine va_last hx hb hK hP hD hS 1 0 rfl rfl hin d_V_add_62 (fun H locs hP hD hS => ?_)
      have hP : va_P (dC, dI) vwCl [(aV, .inr (6, [.ref aC, .ref aP, .ref aO, .int vn, .int (1 : Int32)])), (aC, .inl (cC, 512, .inr (.inl (vp_updL vc p0.toNatClampNeg ((vc p0.toNatClampNeg) + (vc p1.toNatClampNeg)))))), (aP, .inl (cP, 512, .inl vp)), (aO, .inl (cO, 512, .inl vo))] H := hP
      have hD : va_D A [(aV, .inr (6, [.ref aC, .ref aP, .ref aO, .int vn, .int (1 : Int32)])), (aC, .inl (cC, 512, .inr (.inl (vp_updL vc p0.toNatClampNeg ((vc p0.toNatClampNeg) + (vc p1.toNatClampNeg)))))), (aP, .inl (cP, 512, .inl vp)), (aO, .inl (cO, 512, .inl vo))] := hD
      have ho := Option.some.inj hf
      subst o
      have hP9 := hP.sub (ws' := [(aV, .inr (6, [.ref aC, .ref aP, .ref aO, .int vn, .int (1 : Int32)])), (aC, .inl (cC, 512, .inr (.inl (vp_updL vc p0.toNatClampNeg ((vc p0.toNatClampNeg) + (vc p1.toNatClampNeg)))))), (aP, .inl (cP, 512, .inl vp)), (aO, .inl (cO, 512, .inl vo))]) [0, 1, 2, 3] rfl
      have hD9 := hD.sub (ws' := [(aV, .inr (6, [.ref aC, .ref aP, .ref aO, .int vn, .int (1 : Int32)])), (aC, .inl (cC, 512, .inr (.inl (vp_updL vc p0.toNatClampNeg ((vc p0.toNatClampNeg) + (vc p1.toNatClampNeg)))))), (aP, .inl (cP, 512, .inl vp)), (aO, .inl (cO, 512, .inl vo))]) [0, 1, 2, 3] (by decide) rfl
      exact W.vret hx hb hr (fun t ht hW => ⟨⟨(), rfl, trivial, by rw [ht]; exact hP9, va_K.moved hW.alike hK, hD9⟩, hS.F ht⟩) hS.2.2 d_V_add_63
  · rw [if_neg c_2] at hf
    refine lv_aload_n hx hb d_V_add_8 rfl (lv_at hl 0 rfl) ?_
    refine va_get (D := (dC, dI)) (ci := 6) (v := .ref aP) (C := R_V) (T := F_V) (N := 5) hx hb hts i_V hown hK hP 0 rfl rfl 1 (by decide) (hts _ wb_106) (fun _ h9 => h9) rfl d_V_add_9 ?_
    refine lv_iload_n hx hb d_V_add_12 rfl (lv_at hl 1 rfl) ?_
    refine lv_aload_n hx hb d_V_add_13 rfl (lv_at hl 0 rfl) ?_
    refine va_get (D := (dC, dI)) (ci := 6) (v := .ref aP) (C := R_V) (T := F_V) (N := 5) hx hb hts i_V hown hK hP 0 rfl rfl 1 (by decide) (hts _ wb_106) (fun _ h9 => h9) rfl d_V_add_14 ?_
    refine lv_iload_n hx hb d_V_add_17 rfl (lv_at hl 2 rfl) ?_
    obtain ⟨hin, hf⟩ := gi_some hf
    refine va_iald hx hb hK hP 2 1 rfl rfl hin d_V_add_18 ?_
    obtain ⟨hin, hf⟩ := gi_some hf
    refine va_iast hx hb hK hP hD hS 2 1 rfl rfl hin d_V_add_19 (fun H locs hP hD hS => ?_)
    have hP : va_P (dC, dI) vwCl [(aV, .inr (6, [.ref aC, .ref aP, .ref aO, .int vn, .int vd])), (aC, .inl (cC, 512, .inr (.inl vc))), (aP, .inl (cP, 512, .inl (upd vp p0.toNatClampNeg (vp p1.toNatClampNeg)))), (aO, .inl (cO, 512, .inl vo))] H := hP
    have hD : va_D A [(aV, .inr (6, [.ref aC, .ref aP, .ref aO, .int vn, .int vd])), (aC, .inl (cC, 512, .inr (.inl vc))), (aP, .inl (cP, 512, .inl (upd vp p0.toNatClampNeg (vp p1.toNatClampNeg)))), (aO, .inl (cO, 512, .inl vo))] := hD
    refine lv_aload_n hx hb d_V_add_20 rfl (lv_at hl 0 rfl) ?_
    refine va_get (D := (dC, dI)) (ci := 6) (v := .ref aO) (C := R_V) (T := F_V) (N := 5) hx hb hts i_V hown hK hP 0 rfl rfl 2 (by decide) (hts _ wb_107) (fun _ h9 => h9) rfl d_V_add_21 ?_
    refine lv_iload_n hx hb d_V_add_24 rfl (lv_at hl 1 rfl) ?_
    refine lv_aload_n hx hb d_V_add_25 rfl (lv_at hl 0 rfl) ?_
    refine va_get (D := (dC, dI)) (ci := 6) (v := .ref aO) (C := R_V) (T := F_V) (N := 5) hx hb hts i_V hown hK hP 0 rfl rfl 2 (by decide) (hts _ wb_107) (fun _ h9 => h9) rfl d_V_add_26 ?_
    refine lv_iload_n hx hb d_V_add_29 rfl (lv_at hl 2 rfl) ?_
    obtain ⟨hin, hf⟩ := gi_some hf
    refine va_iald hx hb hK hP 3 2 rfl rfl hin d_V_add_30 ?_
    obtain ⟨hin, hf⟩ := gi_some hf
    refine va_iast hx hb hK hP hD hS 3 2 rfl rfl hin d_V_add_31 (fun H locs hP hD hS => ?_)
    have hP : va_P (dC, dI) vwCl [(aV, .inr (6, [.ref aC, .ref aP, .ref aO, .int vn, .int vd])), (aC, .inl (cC, 512, .inr (.inl vc))), (aP, .inl (cP, 512, .inl (upd vp p0.toNatClampNeg (vp p1.toNatClampNeg)))), (aO, .inl (cO, 512, .inl (upd vo p0.toNatClampNeg (vo p1.toNatClampNeg))))] H := hP
    have hD : va_D A [(aV, .inr (6, [.ref aC, .ref aP, .ref aO, .int vn, .int vd])), (aC, .inl (cC, 512, .inr (.inl vc))), (aP, .inl (cP, 512, .inl (upd vp p0.toNatClampNeg (vp p1.toNatClampNeg)))), (aO, .inl (cO, 512, .inl (upd vo p0.toNatClampNeg (vo p1.toNatClampNeg))))] := hD
    refine lv_goto (tgt := 48) hx hb d_V_add_32 (by decide) ?_
    refine lv_aload_n hx hb d_V_add_48 rfl (lv_at hl 0 rfl) ?_
    refine va_get (D := (dC, dI)) (ci := 6) (v := .ref aC) (C := R_V) (T := F_V) (N := 5) hx hb hts i_V hown hK hP 0 rfl rfl 0 (by decide) (hts _ wb_105) (fun _ h9 => h9) rfl d_V_add_49 ?_
    refine lv_iload_n hx hb d_V_add_52 rfl (lv_at hl 1 rfl) ?_
    refine lv_dup2_11 hx hb d_V_add_53 rfl rfl ?_
    obtain ⟨hin, hf⟩ := gi_some hf
    refine va_lald hx hb hK hP 1 0 rfl rfl hin d_V_add_54 ?_
    refine lv_aload_n hx hb d_V_add_55 rfl (lv_at hl 0 rfl) ?_
    refine va_get (D := (dC, dI)) (ci := 6) (v := .ref aC) (C := R_V) (T := F_V) (N := 5) hx hb hts i_V hown hK hP 0 rfl rfl 0 (by decide) (hts _ wb_105) (fun _ h9 => h9) rfl d_V_add_56 ?_
    refine lv_iload_n hx hb d_V_add_59 rfl (lv_at hl 2 rfl) ?_
    obtain ⟨hin, hf⟩ := gi_some hf
    refine va_lald hx hb hK hP 1 0 rfl rfl hin d_V_add_60 ?_
    refine lv_ladd hx hb d_V_add_61 ?_
    obtain ⟨hin, hf⟩ := gi_some hf
    refine va_last hx hb hK hP hD hS 1 0 rfl rfl hin d_V_add_62 (fun H locs hP hD hS => ?_)
    have hP : va_P (dC, dI) vwCl [(aV, .inr (6, [.ref aC, .ref aP, .ref aO, .int vn, .int vd])), (aC, .inl (cC, 512, .inr (.inl (vp_updL vc p0.toNatClampNeg ((vc p0.toNatClampNeg) + (vc p1.toNatClampNeg)))))), (aP, .inl (cP, 512, .inl (upd vp p0.toNatClampNeg (vp p1.toNatClampNeg)))), (aO, .inl (cO, 512, .inl (upd vo p0.toNatClampNeg (vo p1.toNatClampNeg))))] H := hP
    have hD : va_D A [(aV, .inr (6, [.ref aC, .ref aP, .ref aO, .int vn, .int vd])), (aC, .inl (cC, 512, .inr (.inl (vp_updL vc p0.toNatClampNeg ((vc p0.toNatClampNeg) + (vc p1.toNatClampNeg)))))), (aP, .inl (cP, 512, .inl (upd vp p0.toNatClampNeg (vp p1.toNatClampNeg)))), (aO, .inl (cO, 512, .inl (upd vo p0.toNatClampNeg (vo p1.toNatClampNeg))))] := hD
    have ho := Option.some.inj hf
    subst o
    have hP9 := hP.sub (ws' := [(aV, .inr (6, [.ref aC, .ref aP, .ref aO, .int vn, .int vd])), (aC, .inl (cC, 512, .inr (.inl (vp_updL vc p0.toNatClampNeg ((vc p0.toNatClampNeg) + (vc p1.toNatClampNeg)))))), (aP, .inl (cP, 512, .inl (upd vp p0.toNatClampNeg (vp p1.toNatClampNeg)))), (aO, .inl (cO, 512, .inl (upd vo p0.toNatClampNeg (vo p1.toNatClampNeg))))]) [0, 1, 2, 3] rfl
    have hD9 := hD.sub (ws' := [(aV, .inr (6, [.ref aC, .ref aP, .ref aO, .int vn, .int vd])), (aC, .inl (cC, 512, .inr (.inl (vp_updL vc p0.toNatClampNeg ((vc p0.toNatClampNeg) + (vc p1.toNatClampNeg)))))), (aP, .inl (cP, 512, .inl (upd vp p0.toNatClampNeg (vp p1.toNatClampNeg)))), (aO, .inl (cO, 512, .inl (upd vo p0.toNatClampNeg (vo p1.toNatClampNeg))))]) [0, 1, 2, 3] (by decide) rfl
    exact W.vret hx hb hr (fun t ht hW => ⟨⟨(), rfl, trivial, by rw [ht]; exact hP9, va_K.moved hW.alike hK, hD9⟩, hS.F ht⟩) hS.2.2 d_V_add_63

def f_V_takeOff (vd : Int32) (vc : Nat → Int64) (vp : Nat → Int32) (vo : Nat → Int32) (p0 : Int32) (p1 : Int32) : Option (Int32 × (Nat → Int64) × (Nat → Int32)) := (f_V_isPlace vp vo p0).bind (fun o_1 => if o_1 = (0 : Int32) then (f_V_isConstant vp p1).bind (fun o_3 => if o_3 = (0 : Int32) then gi p0 512 (gi p1 512 (gi p0 512 (some ((1 : Int32), vp_updL vc p0.toNatClampNeg ((vc p0.toNatClampNeg) - (vc p1.toNatClampNeg)), vo)))) else gi p0 512 (gi p1 512 (gi p0 512 (some (vd, vp_updL vc p0.toNatClampNeg ((vc p0.toNatClampNeg) - (vc p1.toNatClampNeg)), vo))))) else (f_V_isPlace vp vo p1).bind (fun o_5 => if o_5 = (0 : Int32) then (f_V_isConstant vp p1).bind (fun o_7 => if o_7 = (0 : Int32) then gi p0 512 (gi p1 512 (gi p0 512 (some ((1 : Int32), vp_updL vc p0.toNatClampNeg ((vc p0.toNatClampNeg) - (vc p1.toNatClampNeg)), vo)))) else gi p0 512 (gi p1 512 (gi p0 512 (some (vd, vp_updL vc p0.toNatClampNeg ((vc p0.toNatClampNeg) - (vc p1.toNatClampNeg)), vo))))) else gi p1 512 (gi p0 512 (gi p0 512 (gi p1 512 (gi p0 512 (some (vd, vp_updL vc p0.toNatClampNeg ((vc p0.toNatClampNeg) - (vc p1.toNatClampNeg)), upd vo p0.toNatClampNeg (vp p1.toNatClampNeg)))))))))
set_option maxHeartbeats 4000000 in
set_option maxRecDepth 100000 in
theorem c_V_takeOff (l : Launch) (dC : Nat → ClassId) (dI : Nat → Nat → Nat) (aV aC aP aO : Nat) (cC cP cO : ClassId) (sz : Nat) (vn : Int32) (vd : Int32) (vc : Nat → Int64) (vp : Nat → Int32) (vo : Nat → Int32) (p0 : Int32) (p1 : Int32) (o : Int32 × (Nat → Int64) × (Nat → Int32)) (hf : f_V_takeOff vd vc vp vo p0 p1 = some o) : Met l y_V_takeOff (w_V_takeOff) ({ frames := 1, cells := 0, slots := 0, locals := 21 }) (va_Pc [.ref aV, .int p0, .int p1] (fun U => U.heap.size = sz ∧ va_P (dC, dI) vwCl [(aV, .inr (6, [.ref aC, .ref aP, .ref aO, .int vn, .int vd])), (aC, .inl (cC, 512, .inr (.inl vc))), (aP, .inl (cP, 512, .inl vp)), (aO, .inl (cO, 512, .inl vo))] U.heap ∧ va_K (dC, dI) vwCl [(cC, .long), (cP, .int), (cO, .int)] U ∧ va_D (fun _ => True) [(aV, .inr (6, [.ref aC, .ref aP, .ref aO, .int vn, .int vd])), (aC, .inl (cC, 512, .inr (.inl vc))), (aP, .inl (cP, 512, .inl vp)), (aO, .inl (cO, 512, .inl vo))] ∧ NW U)) (va_Qv (fun (_ : Unit) => True) (fun _ t => va_P (dC, dI) vwCl [(aV, .inr (6, [.ref aC, .ref aP, .ref aO, .int vn, .int o.1])), (aC, .inl (cC, 512, .inr (.inl o.2.1))), (aP, .inl (cP, 512, .inl vp)), (aO, .inl (cO, 512, .inl o.2.2))] t.heap ∧ va_K (dC, dI) vwCl [(cC, .long), (cP, .int), (cO, .int)] t ∧ va_D (va_A [(aV, .inr (6, [.ref aC, .ref aP, .ref aO, .int vn, .int vd])), (aC, .inl (cC, 512, .inr (.inl vc))), (aP, .inl (cP, 512, .inl vp)), (aO, .inl (cO, 512, .inl vo))] sz) [(aV, .inr (6, [.ref aC, .ref aP, .ref aO, .int vn, .int o.1])), (aC, .inl (cC, 512, .inr (.inl o.2.1))), (aP, .inl (cP, 512, .inl vp)), (aO, .inl (cO, 512, .inl o.2.2))]) (va_A [(aV, .inr (6, [.ref aC, .ref aP, .ref aO, .int vn, .int vd])), (aC, .inl (cC, 512, .inr (.inl vc))), (aP, .inl (cP, 512, .inl vp)), (aO, .inl (cO, 512, .inl vo))] sz)) 0 0 (va_A [(aV, .inr (6, [.ref aC, .ref aP, .ref aO, .int vn, .int vd])), (aC, .inl (cC, 512, .inr (.inl vc))), (aP, .inl (cP, 512, .inl vp)), (aO, .inl (cO, 512, .inl vo))] sz) := by
  refine Met.ofW (cc := b_V_takeOff) (maxL := 3) (ret := none) (by decide) rfl ?_
  intro p e s m args below meth c s₁ B hml hv
  obtain ⟨rfl, hsz, hP, hK, hD0, hN⟩ := hv
  have hx := B.exec
  have hb := B.bytes
  have hr := B.returns
  have hts : ∀ w ∈ WB, w.before _ s = true := fun w h => atoms_spec (ws := w_V_takeOff) B.pre w (List.mem_cons_of_mem _ h)
  have hown : s.vm.findClass R_V = some m.cls := findClass_of_methodNamed B.named
  have hlocks := B.notSynchronized
  subst hsz
  have hD := hD0.self (sz := s.heap.size)
  generalize hAe : va_A [(aV, .inr (6, [.ref aC, .ref aP, .ref aO, .int vn, .int vd])), (aC, .inl (cC, 512, .inr (.inl vc))), (aP, .inl (cP, 512, .inl vp)), (aO, .inl (cO, 512, .inl vo))] s.heap.size = A at hD ⊢
  have hA : ∀ q : Nat, s.heap.size ≤ q → A q := fun q h => by rw [← hAe]; exact Or.inr h
  have hS : va_S A s.heap s.heap [] := va_S.rf
  have hP : va_P (dC, dI) vwCl [(aV, .inr (6, [.ref aC, .ref aP, .ref aO, .int vn, .int vd])), (aC, .inl (cC, 512, .inr (.inl vc))), (aP, .inl (cP, 512, .inl vp)), (aO, .inl (cO, 512, .inl vo))] s.heap := hP
  have hl := lv_entry [.ref aV, .int p0, .int p1] (n := 3) (Nat.le_of_ble_eq_true rfl)
  rw [lg_entry_eq]
  generalize (lg_sl [.ref aV, .int p0, .int p1] ++ List.replicate (3 - (lg_sl [.ref aV, .int p0, .int p1]).length) Slot.unset).toArray = ls at hl ⊢
  have hl : lv_has ls 3 [(0, .ref aV), (1, .int p0), (2, .int p1)] := hl
  rw [f_V_takeOff] at hf
  refine lv_aload_n hx hb d_V_takeOff_0 rfl (lv_at hl 0 rfl) ?_
  refine lv_iload_n hx hb d_V_takeOff_1 rfl (lv_at hl 1 rfl) ?_
  obtain ⟨o_1, hM_1, hf⟩ := bd_some hf
  refine cr_i (va_runV (As := [.int p0]) (rest := []) ⟨hx, hb, hml, hown, hts⟩ (c_V_isPlace l dC dI aV aC aP aO cP cO s.heap.size vn vd vp vo p0 o_1 hM_1) (cwV 1 hts (gwV wb_114 wb_116 wb_117 wb_112 wb_115) rfl rfl rfl (by decide +kernel) ⟨Nat.le_of_ble_eq_true rfl, Nat.le_of_ble_eq_true rfl⟩) (pr_V (hP.sub [0, 2, 3] rfl) (hD.sub [0, 2, 3] (by decide) rfl) hK hN [1, 2] rfl (ci := 6) rfl rfl rfl) rfl rfl hl.1 rfl (lv_room (Nat.le_of_ble_eq_true rfl)) d_V_takeOff_2 ⟨Nat.zero_le _, Nat.zero_le _⟩) hP hD hS hA (in_of [0, 2, 3] rfl) (fun r_1 H locs hw hP hS => ?_)
  obtain ⟨hw, hz_1⟩ := hw
  subst r_1
  refine lv_if_eq (tgt := 31) hx hb d_V_takeOff_5 (by decide) (fun c_2 => ?_) (fun c_2 => ?_)
  · rw [if_pos c_2] at hf
    refine lv_aload_n hx hb d_V_takeOff_31 rfl (lv_at hl 0 rfl) ?_
    refine lv_iload_n hx hb d_V_takeOff_32 rfl (lv_at hl 2 rfl) ?_
    obtain ⟨o_3, hM_3, hf⟩ := bd_some hf
    refine cr_i (va_runV (As := [.int p1]) (rest := []) ⟨hx, hb, hml, hown, hts⟩ (c_V_isConstant l dC dI aV aC aP aO cP H.size vn vd vp p1 o_3 hM_3) (cwV 1 hts (gwV wb_108 wb_110 wb_111 wb_112 wb_109) rfl rfl rfl (by decide +kernel) ⟨Nat.le_of_ble_eq_true rfl, Nat.le_of_ble_eq_true rfl⟩) (pr_V (hP.sub [0, 2] rfl) (hD.sub [0, 2] (by decide) rfl) hK hN [1] rfl (ci := 6) rfl rfl rfl) rfl rfl hl.1 rfl (lv_room (Nat.le_of_ble_eq_true rfl)) d_V_takeOff_33 ⟨Nat.zero_le _, Nat.zero_le _⟩) hP hD hS hA (in_of [0, 2] rfl) (fun r_3 H locs hw hP hS => ?_)
    obtain ⟨hw, hz_3⟩ := hw
    subst r_3
    refine lv_if_ne (tgt := 44) hx hb d_V_takeOff_36 (by decide) (fun c_4 => ?_) (fun c_4 => ?_)
    · rw [if_neg c_4] at hf
      refine lv_aload_n hx hb d_V_takeOff_44 rfl (lv_at hl 0 rfl) ?_
      refine va_get (D := (dC, dI)) (ci := 6) (v := .ref aC) (C := R_V) (T := F_V) (N := 5) hx hb hts i_V hown hK hP 0 rfl rfl 0 (by decide) (hts _ wb_105) (fun _ h9 => h9) rfl d_V_takeOff_45 ?_
      refine lv_iload_n hx hb d_V_takeOff_48 rfl (lv_at hl 1 rfl) ?_
      refine lv_dup2_11 hx hb d_V_takeOff_49 rfl rfl ?_
      obtain ⟨hin, hf⟩ := gi_some hf
      refine va_lald hx hb hK hP 1 0 rfl rfl hin d_V_takeOff_50 ?_
      refine lv_aload_n hx hb d_V_takeOff_51 rfl (lv_at hl 0 rfl) ?_
      refine va_get (D := (dC, dI)) (ci := 6) (v := .ref aC) (C := R_V) (T := F_V) (N := 5) hx hb hts i_V hown hK hP 0 rfl rfl 0 (by decide) (hts _ wb_105) (fun _ h9 => h9) rfl d_V_takeOff_52 ?_
      refine lv_iload_n hx hb d_V_takeOff_55 rfl (lv_at hl 2 rfl) ?_
      obtain ⟨hin, hf⟩ := gi_some hf
      refine va_lald hx hb hK hP 1 0 rfl rfl hin d_V_takeOff_56 ?_
      refine lv_lsub hx hb d_V_takeOff_57 ?_
      obtain ⟨hin, hf⟩ := gi_some hf
      refine va_last hx hb hK hP hD hS 1 0 rfl rfl hin d_V_takeOff_58 (fun H locs hP hD hS => ?_)
      have hP : va_P (dC, dI) vwCl [(aV, .inr (6, [.ref aC, .ref aP, .ref aO, .int vn, .int vd])), (aC, .inl (cC, 512, .inr (.inl (vp_updL vc p0.toNatClampNeg ((vc p0.toNatClampNeg) - (vc p1.toNatClampNeg)))))), (aP, .inl (cP, 512, .inl vp)), (aO, .inl (cO, 512, .inl vo))] H := hP
      have hD : va_D A [(aV, .inr (6, [.ref aC, .ref aP, .ref aO, .int vn, .int vd])), (aC, .inl (cC, 512, .inr (.inl (vp_updL vc p0.toNatClampNeg ((vc p0.toNatClampNeg) - (vc p1.toNatClampNeg)))))), (aP, .inl (cP, 512, .inl vp)), (aO, .inl (cO, 512, .inl vo))] := hD
      have ho := Option.some.inj hf
      subst o
      have hP9 := hP.sub (ws' := [(aV, .inr (6, [.ref aC, .ref aP, .ref aO, .int vn, .int vd])), (aC, .inl (cC, 512, .inr (.inl (vp_updL vc p0.toNatClampNeg ((vc p0.toNatClampNeg) - (vc p1.toNatClampNeg)))))), (aP, .inl (cP, 512, .inl vp)), (aO, .inl (cO, 512, .inl vo))]) [0, 1, 2, 3] rfl
      have hD9 := hD.sub (ws' := [(aV, .inr (6, [.ref aC, .ref aP, .ref aO, .int vn, .int vd])), (aC, .inl (cC, 512, .inr (.inl (vp_updL vc p0.toNatClampNeg ((vc p0.toNatClampNeg) - (vc p1.toNatClampNeg)))))), (aP, .inl (cP, 512, .inl vp)), (aO, .inl (cO, 512, .inl vo))]) [0, 1, 2, 3] (by decide) rfl
      exact W.vret hx hb hr (fun t ht hW => ⟨⟨(), rfl, trivial, by rw [ht]; exact hP9, va_K.moved hW.alike hK, hD9⟩, hS.F ht⟩) hS.2.2 d_V_takeOff_59
    · rw [if_pos c_4] at hf
      refine lv_aload_n hx hb d_V_takeOff_39 rfl (lv_at hl 0 rfl) ?_
      refine lv_iconst (v := (1 : Int32)) hx hb d_V_takeOff_40 (by decide) ?_
      refine va_put (D := (dC, dI)) (ci := 6) (v := .int (1 : Int32)) (ty := .boolean) (C := R_V) (T := F_V) (N := 5) hx hb hts i_V ft_V tk_V n_V hown hK hP hD hS 0 rfl rfl 4 (by decide) (hts _ wb_104) (fun _ h9 => h9) rfl (by decide +kernel) rfl rfl (Nat.le_of_ble_eq_true rfl) d_V_takeOff_41 (fun H locs hP hD hS => ?_)
      have hP : va_P (dC, dI) vwCl [(aV, .inr (6, [.ref aC, .ref aP, .ref aO, .int vn, .int (1 : Int32)])), (aC, .inl (cC, 512, .inr (.inl vc))), (aP, .inl (cP, 512, .inl vp)), (aO, .inl (cO, 512, .inl vo))] H := hP
      have hD : va_D A [(aV, .inr (6, [.ref aC, .ref aP, .ref aO, .int vn, .int (1 : Int32)])), (aC, .inl (cC, 512, .inr (.inl vc))), (aP, .inl (cP, 512, .inl vp)), (aO, .inl (cO, 512, .inl vo))] := hD
      refine lv_aload_n hx hb d_V_takeOff_44 rfl (lv_at hl 0 rfl) ?_
      refine va_get (D := (dC, dI)) (ci := 6) (v := .ref aC) (C := R_V) (T := F_V) (N := 5) hx hb hts i_V hown hK hP 0 rfl rfl 0 (by decide) (hts _ wb_105) (fun _ h9 => h9) rfl d_V_takeOff_45 ?_
      refine lv_iload_n hx hb d_V_takeOff_48 rfl (lv_at hl 1 rfl) ?_
      refine lv_dup2_11 hx hb d_V_takeOff_49 rfl rfl ?_
      obtain ⟨hin, hf⟩ := gi_some hf
      refine va_lald hx hb hK hP 1 0 rfl rfl hin d_V_takeOff_50 ?_
      refine lv_aload_n hx hb d_V_takeOff_51 rfl (lv_at hl 0 rfl) ?_
      refine va_get (D := (dC, dI)) (ci := 6) (v := .ref aC) (C := R_V) (T := F_V) (N := 5) hx hb hts i_V hown hK hP 0 rfl rfl 0 (by decide) (hts _ wb_105) (fun _ h9 => h9) rfl d_V_takeOff_52 ?_
      refine lv_iload_n hx hb d_V_takeOff_55 rfl (lv_at hl 2 rfl) ?_
      obtain ⟨hin, hf⟩ := gi_some hf
      refine va_lald hx hb hK hP 1 0 rfl rfl hin d_V_takeOff_56 ?_
      refine lv_lsub hx hb d_V_takeOff_57 ?_
      obtain ⟨hin, hf⟩ := gi_some hf
      refine va_last hx hb hK hP hD hS 1 0 rfl rfl hin d_V_takeOff_58 (fun H locs hP hD hS => ?_)
      have hP : va_P (dC, dI) vwCl [(aV, .inr (6, [.ref aC, .ref aP, .ref aO, .int vn, .int (1 : Int32)])), (aC, .inl (cC, 512, .inr (.inl (vp_updL vc p0.toNatClampNeg ((vc p0.toNatClampNeg) - (vc p1.toNatClampNeg)))))), (aP, .inl (cP, 512, .inl vp)), (aO, .inl (cO, 512, .inl vo))] H := hP
      have hD : va_D A [(aV, .inr (6, [.ref aC, .ref aP, .ref aO, .int vn, .int (1 : Int32)])), (aC, .inl (cC, 512, .inr (.inl (vp_updL vc p0.toNatClampNeg ((vc p0.toNatClampNeg) - (vc p1.toNatClampNeg)))))), (aP, .inl (cP, 512, .inl vp)), (aO, .inl (cO, 512, .inl vo))] := hD
      have ho := Option.some.inj hf
      subst o
      have hP9 := hP.sub (ws' := [(aV, .inr (6, [.ref aC, .ref aP, .ref aO, .int vn, .int (1 : Int32)])), (aC, .inl (cC, 512, .inr (.inl (vp_updL vc p0.toNatClampNeg ((vc p0.toNatClampNeg) - (vc p1.toNatClampNeg)))))), (aP, .inl (cP, 512, .inl vp)), (aO, .inl (cO, 512, .inl vo))]) [0, 1, 2, 3] rfl
      have hD9 := hD.sub (ws' := [(aV, .inr (6, [.ref aC, .ref aP, .ref aO, .int vn, .int (1 : Int32)])), (aC, .inl (cC, 512, .inr (.inl (vp_updL vc p0.toNatClampNeg ((vc p0.toNatClampNeg) - (vc p1.toNatClampNeg)))))), (aP, .inl (cP, 512, .inl vp)), (aO, .inl (cO, 512, .inl vo))]) [0, 1, 2, 3] (by decide) rfl
      exact W.vret hx hb hr (fun t ht hW => ⟨⟨(), rfl, trivial, by rw [ht]; exact hP9, va_K.moved hW.alike hK, hD9⟩, hS.F ht⟩) hS.2.2 d_V_takeOff_59
  · rw [if_neg c_2] at hf
    refine lv_aload_n hx hb d_V_takeOff_8 rfl (lv_at hl 0 rfl) ?_
    refine lv_iload_n hx hb d_V_takeOff_9 rfl (lv_at hl 2 rfl) ?_
    obtain ⟨o_5, hM_5, hf⟩ := bd_some hf
    refine cr_i (va_runV (As := [.int p1]) (rest := []) ⟨hx, hb, hml, hown, hts⟩ (c_V_isPlace l dC dI aV aC aP aO cP cO H.size vn vd vp vo p1 o_5 hM_5) (cwV 1 hts (gwV wb_114 wb_116 wb_117 wb_112 wb_115) rfl rfl rfl (by decide +kernel) ⟨Nat.le_of_ble_eq_true rfl, Nat.le_of_ble_eq_true rfl⟩) (pr_V (hP.sub [0, 2, 3] rfl) (hD.sub [0, 2, 3] (by decide) rfl) hK hN [1, 2] rfl (ci := 6) rfl rfl rfl) rfl rfl hl.1 rfl (lv_room (Nat.le_of_ble_eq_true rfl)) d_V_takeOff_10 ⟨Nat.zero_le _, Nat.zero_le _⟩) hP hD hS hA (in_of [0, 2, 3] rfl) (fun r_5 H locs hw hP hS => ?_)
    obtain ⟨hw, hz_5⟩ := hw
    subst r_5
    refine lv_if_eq (tgt := 31) hx hb d_V_takeOff_13 (by decide) (fun c_6 => ?_) (fun c_6 => ?_)
    · rw [if_pos c_6] at hf
      refine lv_aload_n hx hb d_V_takeOff_31 rfl (lv_at hl 0 rfl) ?_
      refine lv_iload_n hx hb d_V_takeOff_32 rfl (lv_at hl 2 rfl) ?_
      obtain ⟨o_7, hM_7, hf⟩ := bd_some hf
      refine cr_i (va_runV (As := [.int p1]) (rest := []) ⟨hx, hb, hml, hown, hts⟩ (c_V_isConstant l dC dI aV aC aP aO cP H.size vn vd vp p1 o_7 hM_7) (cwV 1 hts (gwV wb_108 wb_110 wb_111 wb_112 wb_109) rfl rfl rfl (by decide +kernel) ⟨Nat.le_of_ble_eq_true rfl, Nat.le_of_ble_eq_true rfl⟩) (pr_V (hP.sub [0, 2] rfl) (hD.sub [0, 2] (by decide) rfl) hK hN [1] rfl (ci := 6) rfl rfl rfl) rfl rfl hl.1 rfl (lv_room (Nat.le_of_ble_eq_true rfl)) d_V_takeOff_33 ⟨Nat.zero_le _, Nat.zero_le _⟩) hP hD hS hA (in_of [0, 2] rfl) (fun r_7 H locs hw hP hS => ?_)
      obtain ⟨hw, hz_7⟩ := hw
      subst r_7
      refine lv_if_ne (tgt := 44) hx hb d_V_takeOff_36 (by decide) (fun c_8 => ?_) (fun c_8 => ?_)
      · rw [if_neg c_8] at hf
        refine lv_aload_n hx hb d_V_takeOff_44 rfl (lv_at hl 0 rfl) ?_
        refine va_get (D := (dC, dI)) (ci := 6) (v := .ref aC) (C := R_V) (T := F_V) (N := 5) hx hb hts i_V hown hK hP 0 rfl rfl 0 (by decide) (hts _ wb_105) (fun _ h9 => h9) rfl d_V_takeOff_45 ?_
        refine lv_iload_n hx hb d_V_takeOff_48 rfl (lv_at hl 1 rfl) ?_
        refine lv_dup2_11 hx hb d_V_takeOff_49 rfl rfl ?_
        obtain ⟨hin, hf⟩ := gi_some hf
        refine va_lald hx hb hK hP 1 0 rfl rfl hin d_V_takeOff_50 ?_
        refine lv_aload_n hx hb d_V_takeOff_51 rfl (lv_at hl 0 rfl) ?_
        refine va_get (D := (dC, dI)) (ci := 6) (v := .ref aC) (C := R_V) (T := F_V) (N := 5) hx hb hts i_V hown hK hP 0 rfl rfl 0 (by decide) (hts _ wb_105) (fun _ h9 => h9) rfl d_V_takeOff_52 ?_
        refine lv_iload_n hx hb d_V_takeOff_55 rfl (lv_at hl 2 rfl) ?_
        obtain ⟨hin, hf⟩ := gi_some hf
        refine va_lald hx hb hK hP 1 0 rfl rfl hin d_V_takeOff_56 ?_
        refine lv_lsub hx hb d_V_takeOff_57 ?_
        obtain ⟨hin, hf⟩ := gi_some hf
        refine va_last hx hb hK hP hD hS 1 0 rfl rfl hin d_V_takeOff_58 (fun H locs hP hD hS => ?_)
        have hP : va_P (dC, dI) vwCl [(aV, .inr (6, [.ref aC, .ref aP, .ref aO, .int vn, .int vd])), (aC, .inl (cC, 512, .inr (.inl (vp_updL vc p0.toNatClampNeg ((vc p0.toNatClampNeg) - (vc p1.toNatClampNeg)))))), (aP, .inl (cP, 512, .inl vp)), (aO, .inl (cO, 512, .inl vo))] H := hP
        have hD : va_D A [(aV, .inr (6, [.ref aC, .ref aP, .ref aO, .int vn, .int vd])), (aC, .inl (cC, 512, .inr (.inl (vp_updL vc p0.toNatClampNeg ((vc p0.toNatClampNeg) - (vc p1.toNatClampNeg)))))), (aP, .inl (cP, 512, .inl vp)), (aO, .inl (cO, 512, .inl vo))] := hD
        have ho := Option.some.inj hf
        subst o
        have hP9 := hP.sub (ws' := [(aV, .inr (6, [.ref aC, .ref aP, .ref aO, .int vn, .int vd])), (aC, .inl (cC, 512, .inr (.inl (vp_updL vc p0.toNatClampNeg ((vc p0.toNatClampNeg) - (vc p1.toNatClampNeg)))))), (aP, .inl (cP, 512, .inl vp)), (aO, .inl (cO, 512, .inl vo))]) [0, 1, 2, 3] rfl
        have hD9 := hD.sub (ws' := [(aV, .inr (6, [.ref aC, .ref aP, .ref aO, .int vn, .int vd])), (aC, .inl (cC, 512, .inr (.inl (vp_updL vc p0.toNatClampNeg ((vc p0.toNatClampNeg) - (vc p1.toNatClampNeg)))))), (aP, .inl (cP, 512, .inl vp)), (aO, .inl (cO, 512, .inl vo))]) [0, 1, 2, 3] (by decide) rfl
        exact W.vret hx hb hr (fun t ht hW => ⟨⟨(), rfl, trivial, by rw [ht]; exact hP9, va_K.moved hW.alike hK, hD9⟩, hS.F ht⟩) hS.2.2 d_V_takeOff_59
      · rw [if_pos c_8] at hf
        refine lv_aload_n hx hb d_V_takeOff_39 rfl (lv_at hl 0 rfl) ?_
        refine lv_iconst (v := (1 : Int32)) hx hb d_V_takeOff_40 (by decide) ?_
        refine va_put (D := (dC, dI)) (ci := 6) (v := .int (1 : Int32)) (ty := .boolean) (C := R_V) (T := F_V) (N := 5) hx hb hts i_V ft_V tk_V n_V hown hK hP hD hS 0 rfl rfl 4 (by decide) (hts _ wb_104) (fun _ h9 => h9) rfl (by decide +kernel) rfl rfl (Nat.le_of_ble_eq_true rfl) d_V_takeOff_41 (fun H locs hP hD hS => ?_)
        have hP : va_P (dC, dI) vwCl [(aV, .inr (6, [.ref aC, .ref aP, .ref aO, .int vn, .int (1 : Int32)])), (aC, .inl (cC, 512, .inr (.inl vc))), (aP, .inl (cP, 512, .inl vp)), (aO, .inl (cO, 512, .inl vo))] H := hP
        have hD : va_D A [(aV, .inr (6, [.ref aC, .ref aP, .ref aO, .int vn, .int (1 : Int32)])), (aC, .inl (cC, 512, .inr (.inl vc))), (aP, .inl (cP, 512, .inl vp)), (aO, .inl (cO, 512, .inl vo))] := hD
        refine lv_aload_n hx hb d_V_takeOff_44 rfl (lv_at hl 0 rfl) ?_
        refine va_get (D := (dC, dI)) (ci := 6) (v := .ref aC) (C := R_V) (T := F_V) (N := 5) hx hb hts i_V hown hK hP 0 rfl rfl 0 (by decide) (hts _ wb_105) (fun _ h9 => h9) rfl d_V_takeOff_45 ?_
        refine lv_iload_n hx hb d_V_takeOff_48 rfl (lv_at hl 1 rfl) ?_
        refine lv_dup2_11 hx hb d_V_takeOff_49 rfl rfl ?_
        obtain ⟨hin, hf⟩ := gi_some hf
        refine va_lald hx hb hK hP 1 0 rfl rfl hin d_V_takeOff_50 ?_
        refine lv_aload_n hx hb d_V_takeOff_51 rfl (lv_at hl 0 rfl) ?_
        refine va_get (D := (dC, dI)) (ci := 6) (v := .ref aC) (C := R_V) (T := F_V) (N := 5) hx hb hts i_V hown hK hP 0 rfl rfl 0 (by decide) (hts _ wb_105) (fun _ h9 => h9) rfl d_V_takeOff_52 ?_
        refine lv_iload_n hx hb d_V_takeOff_55 rfl (lv_at hl 2 rfl) ?_
        obtain ⟨hin, hf⟩ := gi_some hf
        refine va_lald hx hb hK hP 1 0 rfl rfl hin d_V_takeOff_56 ?_
        refine lv_lsub hx hb d_V_takeOff_57 ?_
        obtain ⟨hin, hf⟩ := gi_some hf
        refine va_last hx hb hK hP hD hS 1 0 rfl rfl hin d_V_takeOff_58 (fun H locs hP hD hS => ?_)
        have hP : va_P (dC, dI) vwCl [(aV, .inr (6, [.ref aC, .ref aP, .ref aO, .int vn, .int (1 : Int32)])), (aC, .inl (cC, 512, .inr (.inl (vp_updL vc p0.toNatClampNeg ((vc p0.toNatClampNeg) - (vc p1.toNatClampNeg)))))), (aP, .inl (cP, 512, .inl vp)), (aO, .inl (cO, 512, .inl vo))] H := hP
        have hD : va_D A [(aV, .inr (6, [.ref aC, .ref aP, .ref aO, .int vn, .int (1 : Int32)])), (aC, .inl (cC, 512, .inr (.inl (vp_updL vc p0.toNatClampNeg ((vc p0.toNatClampNeg) - (vc p1.toNatClampNeg)))))), (aP, .inl (cP, 512, .inl vp)), (aO, .inl (cO, 512, .inl vo))] := hD
        have ho := Option.some.inj hf
        subst o
        have hP9 := hP.sub (ws' := [(aV, .inr (6, [.ref aC, .ref aP, .ref aO, .int vn, .int (1 : Int32)])), (aC, .inl (cC, 512, .inr (.inl (vp_updL vc p0.toNatClampNeg ((vc p0.toNatClampNeg) - (vc p1.toNatClampNeg)))))), (aP, .inl (cP, 512, .inl vp)), (aO, .inl (cO, 512, .inl vo))]) [0, 1, 2, 3] rfl
        have hD9 := hD.sub (ws' := [(aV, .inr (6, [.ref aC, .ref aP, .ref aO, .int vn, .int (1 : Int32)])), (aC, .inl (cC, 512, .inr (.inl (vp_updL vc p0.toNatClampNeg ((vc p0.toNatClampNeg) - (vc p1.toNatClampNeg)))))), (aP, .inl (cP, 512, .inl vp)), (aO, .inl (cO, 512, .inl vo))]) [0, 1, 2, 3] (by decide) rfl
        exact W.vret hx hb hr (fun t ht hW => ⟨⟨(), rfl, trivial, by rw [ht]; exact hP9, va_K.moved hW.alike hK, hD9⟩, hS.F ht⟩) hS.2.2 d_V_takeOff_59
    · rw [if_neg c_6] at hf
      refine lv_aload_n hx hb d_V_takeOff_16 rfl (lv_at hl 0 rfl) ?_
      refine va_get (D := (dC, dI)) (ci := 6) (v := .ref aO) (C := R_V) (T := F_V) (N := 5) hx hb hts i_V hown hK hP 0 rfl rfl 2 (by decide) (hts _ wb_107) (fun _ h9 => h9) rfl d_V_takeOff_17 ?_
      refine lv_iload_n hx hb d_V_takeOff_20 rfl (lv_at hl 1 rfl) ?_
      refine lv_aload_n hx hb d_V_takeOff_21 rfl (lv_at hl 0 rfl) ?_
      refine va_get (D := (dC, dI)) (ci := 6) (v := .ref aP) (C := R_V) (T := F_V) (N := 5) hx hb hts i_V hown hK hP 0 rfl rfl 1 (by decide) (hts _ wb_106) (fun _ h9 => h9) rfl d_V_takeOff_22 ?_
      refine lv_iload_n hx hb d_V_takeOff_25 rfl (lv_at hl 2 rfl) ?_
      obtain ⟨hin, hf⟩ := gi_some hf
      refine va_iald hx hb hK hP 2 1 rfl rfl hin d_V_takeOff_26 ?_
      obtain ⟨hin, hf⟩ := gi_some hf
      refine va_iast hx hb hK hP hD hS 3 2 rfl rfl hin d_V_takeOff_27 (fun H locs hP hD hS => ?_)
      have hP : va_P (dC, dI) vwCl [(aV, .inr (6, [.ref aC, .ref aP, .ref aO, .int vn, .int vd])), (aC, .inl (cC, 512, .inr (.inl vc))), (aP, .inl (cP, 512, .inl vp)), (aO, .inl (cO, 512, .inl (upd vo p0.toNatClampNeg (vp p1.toNatClampNeg))))] H := hP
      have hD : va_D A [(aV, .inr (6, [.ref aC, .ref aP, .ref aO, .int vn, .int vd])), (aC, .inl (cC, 512, .inr (.inl vc))), (aP, .inl (cP, 512, .inl vp)), (aO, .inl (cO, 512, .inl (upd vo p0.toNatClampNeg (vp p1.toNatClampNeg))))] := hD
      refine lv_goto (tgt := 44) hx hb d_V_takeOff_28 (by decide) ?_
      refine lv_aload_n hx hb d_V_takeOff_44 rfl (lv_at hl 0 rfl) ?_
      refine va_get (D := (dC, dI)) (ci := 6) (v := .ref aC) (C := R_V) (T := F_V) (N := 5) hx hb hts i_V hown hK hP 0 rfl rfl 0 (by decide) (hts _ wb_105) (fun _ h9 => h9) rfl d_V_takeOff_45 ?_
      refine lv_iload_n hx hb d_V_takeOff_48 rfl (lv_at hl 1 rfl) ?_
      refine lv_dup2_11 hx hb d_V_takeOff_49 rfl rfl ?_
      obtain ⟨hin, hf⟩ := gi_some hf
      refine va_lald hx hb hK hP 1 0 rfl rfl hin d_V_takeOff_50 ?_
      refine lv_aload_n hx hb d_V_takeOff_51 rfl (lv_at hl 0 rfl) ?_
      refine va_get (D := (dC, dI)) (ci := 6) (v := .ref aC) (C := R_V) (T := F_V) (N := 5) hx hb hts i_V hown hK hP 0 rfl rfl 0 (by decide) (hts _ wb_105) (fun _ h9 => h9) rfl d_V_takeOff_52 ?_
      refine lv_iload_n hx hb d_V_takeOff_55 rfl (lv_at hl 2 rfl) ?_
      obtain ⟨hin, hf⟩ := gi_some hf
      refine va_lald hx hb hK hP 1 0 rfl rfl hin d_V_takeOff_56 ?_
      refine lv_lsub hx hb d_V_takeOff_57 ?_
      obtain ⟨hin, hf⟩ := gi_some hf
      refine va_last hx hb hK hP hD hS 1 0 rfl rfl hin d_V_takeOff_58 (fun H locs hP hD hS => ?_)
      have hP : va_P (dC, dI) vwCl [(aV, .inr (6, [.ref aC, .ref aP, .ref aO, .int vn, .int vd])), (aC, .inl (cC, 512, .inr (.inl (vp_updL vc p0.toNatClampNeg ((vc p0.toNatClampNeg) - (vc p1.toNatClampNeg)))))), (aP, .inl (cP, 512, .inl vp)), (aO, .inl (cO, 512, .inl (upd vo p0.toNatClampNeg (vp p1.toNatClampNeg))))] H := hP
      have hD : va_D A [(aV, .inr (6, [.ref aC, .ref aP, .ref aO, .int vn, .int vd])), (aC, .inl (cC, 512, .inr (.inl (vp_updL vc p0.toNatClampNeg ((vc p0.toNatClampNeg) - (vc p1.toNatClampNeg)))))), (aP, .inl (cP, 512, .inl vp)), (aO, .inl (cO, 512, .inl (upd vo p0.toNatClampNeg (vp p1.toNatClampNeg))))] := hD
      have ho := Option.some.inj hf
      subst o
      have hP9 := hP.sub (ws' := [(aV, .inr (6, [.ref aC, .ref aP, .ref aO, .int vn, .int vd])), (aC, .inl (cC, 512, .inr (.inl (vp_updL vc p0.toNatClampNeg ((vc p0.toNatClampNeg) - (vc p1.toNatClampNeg)))))), (aP, .inl (cP, 512, .inl vp)), (aO, .inl (cO, 512, .inl (upd vo p0.toNatClampNeg (vp p1.toNatClampNeg))))]) [0, 1, 2, 3] rfl
      have hD9 := hD.sub (ws' := [(aV, .inr (6, [.ref aC, .ref aP, .ref aO, .int vn, .int vd])), (aC, .inl (cC, 512, .inr (.inl (vp_updL vc p0.toNatClampNeg ((vc p0.toNatClampNeg) - (vc p1.toNatClampNeg)))))), (aP, .inl (cP, 512, .inl vp)), (aO, .inl (cO, 512, .inl (upd vo p0.toNatClampNeg (vp p1.toNatClampNeg))))]) [0, 1, 2, 3] (by decide) rfl
      exact W.vret hx hb hr (fun t ht hW => ⟨⟨(), rfl, trivial, by rw [ht]; exact hP9, va_K.moved hW.alike hK, hD9⟩, hS.F ht⟩) hS.2.2 d_V_takeOff_59

def f_V_divide (vd : Int32) (p0 : Int32) (p1 : Int64) (p2 : Int64) : Option (Int64 × Int32) := if (lg_cmp p2 (0 : Int64)) = (0 : Int32) then some ((0 : Int64), (1 : Int32)) else if p0 = (47 : Int32) then gn (p2 = 0) (some (p1 / p2, vd)) else gn (p2 = 0) (some (p1 - p1 / p2 * p2, vd))
set_option maxHeartbeats 4000000 in
set_option maxRecDepth 100000 in
theorem c_V_divide (l : Launch) (dC : Nat → ClassId) (dI : Nat → Nat → Nat) (aV aC aP aO : Nat) (sz : Nat) (vn : Int32) (vd : Int32) (p0 : Int32) (p1 : Int64) (p2 : Int64) (o : Int64 × Int32) (hf : f_V_divide vd p0 p1 p2 = some o) : Met l y_V_divide (w_V_divide) ({ frames := 0, cells := 0, slots := 0, locals := 0 }) (va_Pc [.ref aV, .int p0, .long p1, .long p2] (fun U => U.heap.size = sz ∧ va_P (dC, dI) vwCl [(aV, .inr (6, [.ref aC, .ref aP, .ref aO, .int vn, .int vd]))] U.heap ∧ va_K (dC, dI) vwCl [] U ∧ va_D (fun _ => True) [(aV, .inr (6, [.ref aC, .ref aP, .ref aO, .int vn, .int vd]))] ∧ NW U)) (va_Ql (fun (r : Int64) (_ : Unit) => r = o.1) (fun _ t => va_P (dC, dI) vwCl [(aV, .inr (6, [.ref aC, .ref aP, .ref aO, .int vn, .int o.2]))] t.heap ∧ va_K (dC, dI) vwCl [] t ∧ va_D (va_A [(aV, .inr (6, [.ref aC, .ref aP, .ref aO, .int vn, .int vd]))] sz) [(aV, .inr (6, [.ref aC, .ref aP, .ref aO, .int vn, .int o.2]))]) (va_A [(aV, .inr (6, [.ref aC, .ref aP, .ref aO, .int vn, .int vd]))] sz)) 0 0 (va_A [(aV, .inr (6, [.ref aC, .ref aP, .ref aO, .int vn, .int vd]))] sz) := by
  refine Met.ofW (cc := b_V_divide) (maxL := 6) (ret := (some .long)) (by decide) rfl ?_
  intro p e s m args below meth c s₁ B hml hv
  obtain ⟨rfl, hsz, hP, hK, hD0, hN⟩ := hv
  have hx := B.exec
  have hb := B.bytes
  have hr := B.returns
  have hts : ∀ w ∈ WB, w.before _ s = true := fun w h => atoms_spec (ws := w_V_divide) B.pre w (List.mem_cons_of_mem _ h)
  have hown : s.vm.findClass R_V = some m.cls := findClass_of_methodNamed B.named
  have hlocks := B.notSynchronized
  subst hsz
  have hD := hD0.self (sz := s.heap.size)
  generalize hAe : va_A [(aV, .inr (6, [.ref aC, .ref aP, .ref aO, .int vn, .int vd]))] s.heap.size = A at hD ⊢
  have hA : ∀ q : Nat, s.heap.size ≤ q → A q := fun q h => by rw [← hAe]; exact Or.inr h
  have hS : va_S A s.heap s.heap [] := va_S.rf
  have hP : va_P (dC, dI) vwCl [(aV, .inr (6, [.ref aC, .ref aP, .ref aO, .int vn, .int vd]))] s.heap := hP
  have hl := lv_entry [.ref aV, .int p0, .long p1, .long p2] (n := 6) (Nat.le_of_ble_eq_true rfl)
  rw [lg_entry_eq]
  generalize (lg_sl [.ref aV, .int p0, .long p1, .long p2] ++ List.replicate (6 - (lg_sl [.ref aV, .int p0, .long p1, .long p2]).length) Slot.unset).toArray = ls at hl ⊢
  have hl : lv_has ls 6 [(0, .ref aV), (1, .int p0), (2, .long p1), (4, .long p2)] := hl
  rw [f_V_divide] at hf
  refine lv_lload hx hb d_V_divide_0 (lv_at hl 3 rfl) ?_
  refine lv_lconst (v := (0 : Int64)) hx hb d_V_divide_2 (by decide) ?_
  refine W.lcmp hx hb d_V_divide_3 ?_
  refine lv_if_ne (tgt := 14) hx hb d_V_divide_4 (by decide) (fun c_1 => ?_) (fun c_1 => ?_)
  · rw [if_neg c_1] at hf
    refine lv_iload_n hx hb d_V_divide_14 rfl (lv_at hl 1 rfl) ?_
    refine lv_bipush (v := (47 : Int32)) hx hb d_V_divide_15 (by decide) ?_
    refine lv_icmp_ne (tgt := 27) hx hb d_V_divide_17 (by decide) (fun c_2 => ?_) (fun c_2 => ?_)
    · rw [if_neg c_2] at hf
      refine lv_lload_n hx hb d_V_divide_27 rfl (lv_at hl 2 rfl) ?_
      refine lv_lload hx hb d_V_divide_28 (lv_at hl 3 rfl) ?_
      obtain ⟨hne, hf⟩ := gn_some hf
      refine lv_lrem hx hb d_V_divide_30 hne ?_
      have ho := Option.some.inj hf
      subst o
      have hP9 := hP.sub (ws' := [(aV, .inr (6, [.ref aC, .ref aP, .ref aO, .int vn, .int vd]))]) [0] rfl
      have hD9 := hD.sub (ws' := [(aV, .inr (6, [.ref aC, .ref aP, .ref aO, .int vn, .int vd]))]) [0] (by decide) rfl
      exact W.lret (v := p1 - p1 / p2 * p2) hx hb hr (fun t ht hW => ⟨⟨p1 - p1 / p2 * p2, (), rfl, rfl, by rw [ht]; exact hP9, va_K.moved hW.alike hK, hD9⟩, hS.F ht⟩) hS.2.2 d_V_divide_31
    · rw [if_pos c_2] at hf
      refine lv_lload_n hx hb d_V_divide_20 rfl (lv_at hl 2 rfl) ?_
      refine lv_lload hx hb d_V_divide_21 (lv_at hl 3 rfl) ?_
      obtain ⟨hne, hf⟩ := gn_some hf
      refine lv_ldiv hx hb d_V_divide_23 hne ?_
      refine lv_goto (tgt := 31) hx hb d_V_divide_24 (by decide) ?_
      have ho := Option.some.inj hf
      subst o
      have hP9 := hP.sub (ws' := [(aV, .inr (6, [.ref aC, .ref aP, .ref aO, .int vn, .int vd]))]) [0] rfl
      have hD9 := hD.sub (ws' := [(aV, .inr (6, [.ref aC, .ref aP, .ref aO, .int vn, .int vd]))]) [0] (by decide) rfl
      exact W.lret (v := p1 / p2) hx hb hr (fun t ht hW => ⟨⟨p1 / p2, (), rfl, rfl, by rw [ht]; exact hP9, va_K.moved hW.alike hK, hD9⟩, hS.F ht⟩) hS.2.2 d_V_divide_31
  · rw [if_pos c_1] at hf
    refine lv_aload_n hx hb d_V_divide_7 rfl (lv_at hl 0 rfl) ?_
    refine lv_iconst (v := (1 : Int32)) hx hb d_V_divide_8 (by decide) ?_
    refine va_put (D := (dC, dI)) (ci := 6) (v := .int (1 : Int32)) (ty := .boolean) (C := R_V) (T := F_V) (N := 5) hx hb hts i_V ft_V tk_V n_V hown hK hP hD hS 0 rfl rfl 4 (by decide) (hts _ wb_104) (fun _ h9 => h9) rfl (by decide +kernel) rfl rfl (Nat.le_of_ble_eq_true rfl) d_V_divide_9 (fun H locs hP hD hS => ?_)
    have hP : va_P (dC, dI) vwCl [(aV, .inr (6, [.ref aC, .ref aP, .ref aO, .int vn, .int (1 : Int32)]))] H := hP
    have hD : va_D A [(aV, .inr (6, [.ref aC, .ref aP, .ref aO, .int vn, .int (1 : Int32)]))] := hD
    refine lv_lconst (v := (0 : Int64)) hx hb d_V_divide_12 (by decide) ?_
    have ho := Option.some.inj hf
    subst o
    have hP9 := hP.sub (ws' := [(aV, .inr (6, [.ref aC, .ref aP, .ref aO, .int vn, .int (1 : Int32)]))]) [0] rfl
    have hD9 := hD.sub (ws' := [(aV, .inr (6, [.ref aC, .ref aP, .ref aO, .int vn, .int (1 : Int32)]))]) [0] (by decide) rfl
    exact W.lret (v := (0 : Int64)) hx hb hr (fun t ht hW => ⟨⟨(0 : Int64), (), rfl, rfl, by rw [ht]; exact hP9, va_K.moved hW.alike hK, hD9⟩, hS.F ht⟩) hS.2.2 d_V_divide_13

def f_V_combine (vd : Int32) (p0 : Int32) (p1 : Int64) (p2 : Int64) : Option (Int64 × Int32) := if p0 = (38 : Int32) then some (p1 &&& p2, vd) else (if p0 = (42 : Int32) then some (p1 * p2, vd) else (if p0 = (60 : Int32) then some (p1 <<< (((p2 &&& (63 : Int64)).toInt32).toInt64 &&& 63), vd) else (if p0 = (62 : Int32) then some ((p1.toUInt64 >>> (((p2 &&& (63 : Int64)).toInt32).toInt64.toUInt64 &&& Int64.toUInt64 63)).toInt64, vd) else (if p0 = (94 : Int32) then some (p1 ^^^ p2, vd) else (if p0 = (124 : Int32) then some (p1 ||| p2, vd) else ((f_V_divide vd p0 p1 p2).bind (fun o_7 => some (o_7.1, o_7.2))))))))
set_option maxHeartbeats 4000000 in
set_option maxRecDepth 100000 in
theorem c_V_combine (l : Launch) (dC : Nat → ClassId) (dI : Nat → Nat → Nat) (aV aC aP aO : Nat) (sz : Nat) (vn : Int32) (vd : Int32) (p0 : Int32) (p1 : Int64) (p2 : Int64) (o : Int64 × Int32) (hf : f_V_combine vd p0 p1 p2 = some o) : Met l y_V_combine (w_V_combine) ({ frames := 1, cells := 0, slots := 0, locals := 25 }) (va_Pc [.ref aV, .int p0, .long p1, .long p2] (fun U => U.heap.size = sz ∧ va_P (dC, dI) vwCl [(aV, .inr (6, [.ref aC, .ref aP, .ref aO, .int vn, .int vd]))] U.heap ∧ va_K (dC, dI) vwCl [] U ∧ va_D (fun _ => True) [(aV, .inr (6, [.ref aC, .ref aP, .ref aO, .int vn, .int vd]))] ∧ NW U)) (va_Ql (fun (r : Int64) (_ : Unit) => r = o.1) (fun _ t => va_P (dC, dI) vwCl [(aV, .inr (6, [.ref aC, .ref aP, .ref aO, .int vn, .int o.2]))] t.heap ∧ va_K (dC, dI) vwCl [] t ∧ va_D (va_A [(aV, .inr (6, [.ref aC, .ref aP, .ref aO, .int vn, .int vd]))] sz) [(aV, .inr (6, [.ref aC, .ref aP, .ref aO, .int vn, .int o.2]))]) (va_A [(aV, .inr (6, [.ref aC, .ref aP, .ref aO, .int vn, .int vd]))] sz)) 0 0 (va_A [(aV, .inr (6, [.ref aC, .ref aP, .ref aO, .int vn, .int vd]))] sz) := by
  refine Met.ofW (cc := b_V_combine) (maxL := 6) (ret := (some .long)) (by decide) rfl ?_
  intro p e s m args below meth c s₁ B hml hv
  obtain ⟨rfl, hsz, hP, hK, hD0, hN⟩ := hv
  have hx := B.exec
  have hb := B.bytes
  have hr := B.returns
  have hts : ∀ w ∈ WB, w.before _ s = true := fun w h => atoms_spec (ws := w_V_combine) B.pre w (List.mem_cons_of_mem _ h)
  have hown : s.vm.findClass R_V = some m.cls := findClass_of_methodNamed B.named
  have hlocks := B.notSynchronized
  subst hsz
  have hD := hD0.self (sz := s.heap.size)
  generalize hAe : va_A [(aV, .inr (6, [.ref aC, .ref aP, .ref aO, .int vn, .int vd]))] s.heap.size = A at hD ⊢
  have hA : ∀ q : Nat, s.heap.size ≤ q → A q := fun q h => by rw [← hAe]; exact Or.inr h
  have hS : va_S A s.heap s.heap [] := va_S.rf
  have hP : va_P (dC, dI) vwCl [(aV, .inr (6, [.ref aC, .ref aP, .ref aO, .int vn, .int vd]))] s.heap := hP
  have hl := lv_entry [.ref aV, .int p0, .long p1, .long p2] (n := 6) (Nat.le_of_ble_eq_true rfl)
  rw [lg_entry_eq]
  generalize (lg_sl [.ref aV, .int p0, .long p1, .long p2] ++ List.replicate (6 - (lg_sl [.ref aV, .int p0, .long p1, .long p2]).length) Slot.unset).toArray = ls at hl ⊢
  have hl : lv_has ls 6 [(0, .ref aV), (1, .int p0), (2, .long p1), (4, .long p2)] := hl
  rw [f_V_combine] at hf
  refine lv_iload_n hx hb d_V_combine_0 rfl (lv_at hl 1 rfl) ?_
  by_cases c_1 : p0 = (38 : Int32)
  · rw [if_pos c_1] at hf
    refine lv_lookup (off := 69) (tgt := 70) hx hb d_V_combine_1 (by decide) (by rw [c_1]; first | done | rfl | decide) (by decide) ?_
    refine lv_lload_n hx hb d_V_combine_70 rfl (lv_at hl 2 rfl) ?_
    refine lv_lload hx hb d_V_combine_71 (lv_at hl 3 rfl) ?_
    refine lv_land hx hb d_V_combine_73 ?_
    have ho := Option.some.inj hf
    subst o
    have hP9 := hP.sub (ws' := [(aV, .inr (6, [.ref aC, .ref aP, .ref aO, .int vn, .int vd]))]) [0] rfl
    have hD9 := hD.sub (ws' := [(aV, .inr (6, [.ref aC, .ref aP, .ref aO, .int vn, .int vd]))]) [0] (by decide) rfl
    exact W.lret (v := p1 &&& p2) hx hb hr (fun t ht hW => ⟨⟨p1 &&& p2, (), rfl, rfl, by rw [ht]; exact hP9, va_K.moved hW.alike hK, hD9⟩, hS.F ht⟩) hS.2.2 d_V_combine_74
  rw [if_neg c_1] at hf
  by_cases c_2 : p0 = (42 : Int32)
  · rw [if_pos c_2] at hf
    refine lv_lookup (off := 94) (tgt := 95) hx hb d_V_combine_1 (by decide) (by rw [c_2]; first | done | rfl | decide) (by decide) ?_
    refine lv_lload_n hx hb d_V_combine_95 rfl (lv_at hl 2 rfl) ?_
    refine lv_lload hx hb d_V_combine_96 (lv_at hl 3 rfl) ?_
    refine lv_lmul hx hb d_V_combine_98 ?_
    have ho := Option.some.inj hf
    subst o
    have hP9 := hP.sub (ws' := [(aV, .inr (6, [.ref aC, .ref aP, .ref aO, .int vn, .int vd]))]) [0] rfl
    have hD9 := hD.sub (ws' := [(aV, .inr (6, [.ref aC, .ref aP, .ref aO, .int vn, .int vd]))]) [0] (by decide) rfl
    exact W.lret (v := p1 * p2) hx hb hr (fun t ht hW => ⟨⟨p1 * p2, (), rfl, rfl, by rw [ht]; exact hP9, va_K.moved hW.alike hK, hD9⟩, hS.F ht⟩) hS.2.2 d_V_combine_99
  rw [if_neg c_2] at hf
  by_cases c_3 : p0 = (60 : Int32)
  · rw [if_pos c_3] at hf
    refine lv_lookup (off := 74) (tgt := 75) hx hb d_V_combine_1 (by decide) (by rw [c_3]; first | done | rfl | decide) (by decide) ?_
    refine lv_lload_n hx hb d_V_combine_75 rfl (lv_at hl 2 rfl) ?_
    refine lv_lload hx hb d_V_combine_76 (lv_at hl 3 rfl) ?_
    refine lv_ldc2 (v := (63 : Int64)) hx hb hown (hts _ wb_118) d_V_combine_78 ?_
    refine lv_land hx hb d_V_combine_81 ?_
    refine lv_l2i (v := (p2 &&& (63 : Int64)).toInt32) hx hb d_V_combine_82 rfl ?_
    refine lv_lshl (v := p1 <<< (((p2 &&& (63 : Int64)).toInt32).toInt64 &&& 63)) hx hb d_V_combine_83 rfl ?_
    have ho := Option.some.inj hf
    subst o
    have hP9 := hP.sub (ws' := [(aV, .inr (6, [.ref aC, .ref aP, .ref aO, .int vn, .int vd]))]) [0] rfl
    have hD9 := hD.sub (ws' := [(aV, .inr (6, [.ref aC, .ref aP, .ref aO, .int vn, .int vd]))]) [0] (by decide) rfl
    exact W.lret (v := p1 <<< (((p2 &&& (63 : Int64)).toInt32).toInt64 &&& 63)) hx hb hr (fun t ht hW => ⟨⟨p1 <<< (((p2 &&& (63 : Int64)).toInt32).toInt64 &&& 63), (), rfl, rfl, by rw [ht]; exact hP9, va_K.moved hW.alike hK, hD9⟩, hS.F ht⟩) hS.2.2 d_V_combine_84
  rw [if_neg c_3] at hf
  by_cases c_4 : p0 = (62 : Int32)
  · rw [if_pos c_4] at hf
    refine lv_lookup (off := 84) (tgt := 85) hx hb d_V_combine_1 (by decide) (by rw [c_4]; first | done | rfl | decide) (by decide) ?_
    refine lv_lload_n hx hb d_V_combine_85 rfl (lv_at hl 2 rfl) ?_
    refine lv_lload hx hb d_V_combine_86 (lv_at hl 3 rfl) ?_
    refine lv_ldc2 (v := (63 : Int64)) hx hb hown (hts _ wb_118) d_V_combine_88 ?_
    refine lv_land hx hb d_V_combine_91 ?_
    refine lv_l2i (v := (p2 &&& (63 : Int64)).toInt32) hx hb d_V_combine_92 rfl ?_
    refine lv_lushr (v := (p1.toUInt64 >>> (((p2 &&& (63 : Int64)).toInt32).toInt64.toUInt64 &&& Int64.toUInt64 63)).toInt64) hx hb d_V_combine_93 rfl ?_
    have ho := Option.some.inj hf
    subst o
    have hP9 := hP.sub (ws' := [(aV, .inr (6, [.ref aC, .ref aP, .ref aO, .int vn, .int vd]))]) [0] rfl
    have hD9 := hD.sub (ws' := [(aV, .inr (6, [.ref aC, .ref aP, .ref aO, .int vn, .int vd]))]) [0] (by decide) rfl
    exact W.lret (v := (p1.toUInt64 >>> (((p2 &&& (63 : Int64)).toInt32).toInt64.toUInt64 &&& Int64.toUInt64 63)).toInt64) hx hb hr (fun t ht hW => ⟨⟨(p1.toUInt64 >>> (((p2 &&& (63 : Int64)).toInt32).toInt64.toUInt64 &&& Int64.toUInt64 63)).toInt64, (), rfl, rfl, by rw [ht]; exact hP9, va_K.moved hW.alike hK, hD9⟩, hS.F ht⟩) hS.2.2 d_V_combine_94
  rw [if_neg c_4] at hf
  by_cases c_5 : p0 = (94 : Int32)
  · rw [if_pos c_5] at hf
    refine lv_lookup (off := 64) (tgt := 65) hx hb d_V_combine_1 (by decide) (by rw [c_5]; first | done | rfl | decide) (by decide) ?_
    refine lv_lload_n hx hb d_V_combine_65 rfl (lv_at hl 2 rfl) ?_
    refine lv_lload hx hb d_V_combine_66 (lv_at hl 3 rfl) ?_
    refine lv_lxor hx hb d_V_combine_68 ?_
    have ho := Option.some.inj hf
    subst o
    have hP9 := hP.sub (ws' := [(aV, .inr (6, [.ref aC, .ref aP, .ref aO, .int vn, .int vd]))]) [0] rfl
    have hD9 := hD.sub (ws' := [(aV, .inr (6, [.ref aC, .ref aP, .ref aO, .int vn, .int vd]))]) [0] (by decide) rfl
    exact W.lret (v := p1 ^^^ p2) hx hb hr (fun t ht hW => ⟨⟨p1 ^^^ p2, (), rfl, rfl, by rw [ht]; exact hP9, va_K.moved hW.alike hK, hD9⟩, hS.F ht⟩) hS.2.2 d_V_combine_69
  rw [if_neg c_5] at hf
  by_cases c_6 : p0 = (124 : Int32)
  · rw [if_pos c_6] at hf
    refine lv_lookup (off := 59) (tgt := 60) hx hb d_V_combine_1 (by decide) (by rw [c_6]; first | done | rfl | decide) (by decide) ?_
    refine lv_lload_n hx hb d_V_combine_60 rfl (lv_at hl 2 rfl) ?_
    refine lv_lload hx hb d_V_combine_61 (lv_at hl 3 rfl) ?_
    refine lv_lor hx hb d_V_combine_63 ?_
    have ho := Option.some.inj hf
    subst o
    have hP9 := hP.sub (ws' := [(aV, .inr (6, [.ref aC, .ref aP, .ref aO, .int vn, .int vd]))]) [0] rfl
    have hD9 := hD.sub (ws' := [(aV, .inr (6, [.ref aC, .ref aP, .ref aO, .int vn, .int vd]))]) [0] (by decide) rfl
    exact W.lret (v := p1 ||| p2) hx hb hr (fun t ht hW => ⟨⟨p1 ||| p2, (), rfl, rfl, by rw [ht]; exact hP9, va_K.moved hW.alike hK, hD9⟩, hS.F ht⟩) hS.2.2 d_V_combine_64
  rw [if_neg c_6] at hf
  refine lv_lookup (off := 99) (tgt := 100) hx hb d_V_combine_1 (by decide) (by rw [lv_osw c_1 (by decide), lv_osw c_2 (by decide), lv_osw c_3 (by decide), lv_osw c_4 (by decide), lv_osw c_5 (by decide), lv_osw c_6 (by decide)]; first | done | rfl) (by decide) ?_
  refine lv_aload_n hx hb d_V_combine_100 rfl (lv_at hl 0 rfl) ?_
  refine lv_iload_n hx hb d_V_combine_101 rfl (lv_at hl 1 rfl) ?_
  refine lv_lload_n hx hb d_V_combine_102 rfl (lv_at hl 2 rfl) ?_
  refine lv_lload hx hb d_V_combine_103 (lv_at hl 3 rfl) ?_
  obtain ⟨o_7, hM_7, hf⟩ := bd_some hf
  refine cl_l (wr := []) (va_runV (As := [.int p0, .long p1, .long p2]) (rest := []) ⟨hx, hb, hml, hown, hts⟩ (c_V_divide l dC dI aV aC aP aO  s.heap.size vn vd p0 p1 p2 o_7 hM_7) (cwV 3 hts (gwV wb_119 wb_121 wb_122 wb_112 wb_120) rfl rfl rfl (by decide +kernel) ⟨Nat.le_of_ble_eq_true rfl, Nat.le_of_ble_eq_true rfl⟩) (pr_V (hP.sub [0] rfl) (hD.sub [0] (by decide) rfl) hK hN [] rfl (ci := 6) rfl rfl rfl) rfl rfl hl.1 rfl (lv_room (Nat.le_of_ble_eq_true rfl)) d_V_combine_105 ⟨Nat.zero_le _, Nat.zero_le _⟩) hP hD hS hA [0] [] rfl rfl (by decide) (by decide) (fun r_7 H locs hw hP hD hS => ?_)
  subst r_7
  have hP : va_P (dC, dI) vwCl [(aV, .inr (6, [.ref aC, .ref aP, .ref aO, .int vn, .int o_7.2]))] H := hP
  have hD : va_D A [(aV, .inr (6, [.ref aC, .ref aP, .ref aO, .int vn, .int o_7.2]))] := hD
  have ho := Option.some.inj hf
  subst o
  have hP9 := hP.sub (ws' := [(aV, .inr (6, [.ref aC, .ref aP, .ref aO, .int vn, .int o_7.2]))]) [0] rfl
  have hD9 := hD.sub (ws' := [(aV, .inr (6, [.ref aC, .ref aP, .ref aO, .int vn, .int o_7.2]))]) [0] (by decide) rfl
  exact W.lret (v := o_7.1) hx hb hr (fun t ht hW => ⟨⟨o_7.1, (), rfl, rfl, by rw [ht]; exact hP9, va_K.moved hW.alike hK, hD9⟩, hS.F ht⟩) hS.2.2 d_V_combine_108

def f_V_applyBetween (vn : Int32) (vd : Int32) (vc : Nat → Int64) (vp : Nat → Int32) (vo : Nat → Int32) (p0 : Int32) : Option (Int32 × Int32 × (Nat → Int64) × (Nat → Int32) × (Nat → Int32)) := if (0 : Int32) ≤ ((vn - (1 : Int32)) - (1 : Int32)) then if p0 = (43 : Int32) then (f_V_add vd vc vp vo ((vn - (1 : Int32)) - (1 : Int32)) (vn - (1 : Int32))).bind (fun o_10 => some (vn - (1 : Int32), o_10.1, o_10.2.1, o_10.2.2.1, o_10.2.2.2)) else if p0 = (45 : Int32) then (f_V_takeOff vd vc vp vo ((vn - (1 : Int32)) - (1 : Int32)) (vn - (1 : Int32))).bind (fun o_9 => some (vn - (1 : Int32), o_9.1, o_9.2.1, vp, o_9.2.2)) else (f_V_isConstant vp ((vn - (1 : Int32)) - (1 : Int32))).bind (fun o_4 => if o_4 = (0 : Int32) then some (vn - (1 : Int32), (1 : Int32), vc, vp, vo) else (f_V_isConstant vp (vn - (1 : Int32))).bind (fun o_6 => if o_6 = (0 : Int32) then some (vn - (1 : Int32), (1 : Int32), vc, vp, vo) else gi ((vn - (1 : Int32)) - (1 : Int32)) 512 (gi (vn - (1 : Int32)) 512 ((f_V_combine vd p0 (vc ((vn - (1 : Int32)) - (1 : Int32)).toNatClampNeg) (vc (vn - (1 : Int32)).toNatClampNeg)).bind (fun o_8 => gi ((vn - (1 : Int32)) - (1 : Int32)) 512 (some (vn - (1 : Int32), o_8.2, vp_updL vc ((vn - (1 : Int32)) - (1 : Int32)).toNatClampNeg o_8.1, vp, vo))))))) else some (vn, vd, vc, vp, vo)
set_option maxHeartbeats 4000000 in
set_option maxRecDepth 100000 in
theorem c_V_applyBetween (l : Launch) (dC : Nat → ClassId) (dI : Nat → Nat → Nat) (aV aC aP aO : Nat) (cC cP cO : ClassId) (sz : Nat) (vn : Int32) (vd : Int32) (vc : Nat → Int64) (vp : Nat → Int32) (vo : Nat → Int32) (p0 : Int32) (o : Int32 × Int32 × (Nat → Int64) × (Nat → Int32) × (Nat → Int32)) (hf : f_V_applyBetween vn vd vc vp vo p0 = some o) : Met l y_V_applyBetween (w_V_applyBetween) ({ frames := 2, cells := 0, slots := 0, locals := 50 }) (va_Pc [.ref aV, .int p0] (fun U => U.heap.size = sz ∧ va_P (dC, dI) vwCl [(aV, .inr (6, [.ref aC, .ref aP, .ref aO, .int vn, .int vd])), (aC, .inl (cC, 512, .inr (.inl vc))), (aP, .inl (cP, 512, .inl vp)), (aO, .inl (cO, 512, .inl vo))] U.heap ∧ va_K (dC, dI) vwCl [(cC, .long), (cP, .int), (cO, .int)] U ∧ va_D (fun _ => True) [(aV, .inr (6, [.ref aC, .ref aP, .ref aO, .int vn, .int vd])), (aC, .inl (cC, 512, .inr (.inl vc))), (aP, .inl (cP, 512, .inl vp)), (aO, .inl (cO, 512, .inl vo))] ∧ NW U)) (va_Qv (fun (_ : Unit) => True) (fun _ t => va_P (dC, dI) vwCl [(aV, .inr (6, [.ref aC, .ref aP, .ref aO, .int o.1, .int o.2.1])), (aC, .inl (cC, 512, .inr (.inl o.2.2.1))), (aP, .inl (cP, 512, .inl o.2.2.2.1)), (aO, .inl (cO, 512, .inl o.2.2.2.2))] t.heap ∧ va_K (dC, dI) vwCl [(cC, .long), (cP, .int), (cO, .int)] t ∧ va_D (va_A [(aV, .inr (6, [.ref aC, .ref aP, .ref aO, .int vn, .int vd])), (aC, .inl (cC, 512, .inr (.inl vc))), (aP, .inl (cP, 512, .inl vp)), (aO, .inl (cO, 512, .inl vo))] sz) [(aV, .inr (6, [.ref aC, .ref aP, .ref aO, .int o.1, .int o.2.1])), (aC, .inl (cC, 512, .inr (.inl o.2.2.1))), (aP, .inl (cP, 512, .inl o.2.2.2.1)), (aO, .inl (cO, 512, .inl o.2.2.2.2))]) (va_A [(aV, .inr (6, [.ref aC, .ref aP, .ref aO, .int vn, .int vd])), (aC, .inl (cC, 512, .inr (.inl vc))), (aP, .inl (cP, 512, .inl vp)), (aO, .inl (cO, 512, .inl vo))] sz)) 0 0 (va_A [(aV, .inr (6, [.ref aC, .ref aP, .ref aO, .int vn, .int vd])), (aC, .inl (cC, 512, .inr (.inl vc))), (aP, .inl (cP, 512, .inl vp)), (aO, .inl (cO, 512, .inl vo))] sz) := by
  refine Met.ofW (cc := b_V_applyBetween) (maxL := 4) (ret := none) (by decide) rfl ?_
  intro p e s m args below meth c s₁ B hml hv
  obtain ⟨rfl, hsz, hP, hK, hD0, hN⟩ := hv
  have hx := B.exec
  have hb := B.bytes
  have hr := B.returns
  have hts : ∀ w ∈ WB, w.before _ s = true := fun w h => atoms_spec (ws := w_V_applyBetween) B.pre w (List.mem_cons_of_mem _ h)
  have hown : s.vm.findClass R_V = some m.cls := findClass_of_methodNamed B.named
  have hlocks := B.notSynchronized
  subst hsz
  have hD := hD0.self (sz := s.heap.size)
  generalize hAe : va_A [(aV, .inr (6, [.ref aC, .ref aP, .ref aO, .int vn, .int vd])), (aC, .inl (cC, 512, .inr (.inl vc))), (aP, .inl (cP, 512, .inl vp)), (aO, .inl (cO, 512, .inl vo))] s.heap.size = A at hD ⊢
  have hA : ∀ q : Nat, s.heap.size ≤ q → A q := fun q h => by rw [← hAe]; exact Or.inr h
  have hS : va_S A s.heap s.heap [] := va_S.rf
  have hP : va_P (dC, dI) vwCl [(aV, .inr (6, [.ref aC, .ref aP, .ref aO, .int vn, .int vd])), (aC, .inl (cC, 512, .inr (.inl vc))), (aP, .inl (cP, 512, .inl vp)), (aO, .inl (cO, 512, .inl vo))] s.heap := hP
  have hl := lv_entry [.ref aV, .int p0] (n := 4) (Nat.le_of_ble_eq_true rfl)
  rw [lg_entry_eq]
  generalize (lg_sl [.ref aV, .int p0] ++ List.replicate (4 - (lg_sl [.ref aV, .int p0]).length) Slot.unset).toArray = ls at hl ⊢
  have hl : lv_has ls 4 [(0, .ref aV), (1, .int p0)] := hl
  rw [f_V_applyBetween] at hf
  refine lv_aload_n hx hb d_V_applyBetween_0 rfl (lv_at hl 0 rfl) ?_
  refine va_get (D := (dC, dI)) (ci := 6) (v := .int vn) (C := R_V) (T := F_V) (N := 5) hx hb hts i_V hown hK hP 0 rfl rfl 3 (by decide) (hts _ wb_103) (fun _ h9 => h9) rfl d_V_applyBetween_1 ?_
  refine lv_iconst (v := (1 : Int32)) hx hb d_V_applyBetween_4 (by decide) ?_
  refine lv_isub hx hb d_V_applyBetween_5 ?_
  refine lv_istore_n (lv' := [(2, .int (vn - (1 : Int32))), (0, .ref aV), (1, .int p0)]) hx hb d_V_applyBetween_6 rfl hl (by decide) rfl (fun ls hl => ?_)
  refine lv_iload_n hx hb d_V_applyBetween_7 rfl (lv_at hl 0 rfl) ?_
  refine lv_iconst (v := (1 : Int32)) hx hb d_V_applyBetween_8 (by decide) ?_
  refine lv_isub hx hb d_V_applyBetween_9 ?_
  refine lv_istore_n (lv' := [(3, .int ((vn - (1 : Int32)) - (1 : Int32))), (2, .int (vn - (1 : Int32))), (0, .ref aV), (1, .int p0)]) hx hb d_V_applyBetween_10 rfl hl (by decide) rfl (fun ls hl => ?_)
  refine lv_iload_n hx hb d_V_applyBetween_11 rfl (lv_at hl 0 rfl) ?_
  refine lv_if_ge (tgt := 16) hx hb d_V_applyBetween_12 (by decide) (fun c_1 => ?_) (fun c_1 => ?_)
  · rw [if_pos c_1] at hf
    refine lv_iload_n hx hb d_V_applyBetween_16 rfl (lv_at hl 3 rfl) ?_
    refine lv_bipush (v := (43 : Int32)) hx hb d_V_applyBetween_17 (by decide) ?_
    refine lv_icmp_ne (tgt := 31) hx hb d_V_applyBetween_19 (by decide) (fun c_2 => ?_) (fun c_2 => ?_)
    · rw [if_neg c_2] at hf
      refine lv_iload_n hx hb d_V_applyBetween_31 rfl (lv_at hl 3 rfl) ?_
      refine lv_bipush (v := (45 : Int32)) hx hb d_V_applyBetween_32 (by decide) ?_
      refine lv_icmp_ne (tgt := 46) hx hb d_V_applyBetween_34 (by decide) (fun c_3 => ?_) (fun c_3 => ?_)
      · rw [if_neg c_3] at hf
        refine lv_aload_n hx hb d_V_applyBetween_46 rfl (lv_at hl 2 rfl) ?_
        refine lv_iload_n hx hb d_V_applyBetween_47 rfl (lv_at hl 0 rfl) ?_
        obtain ⟨o_4, hM_4, hf⟩ := bd_some hf
        refine cr_i (va_runV (As := [.int ((vn - (1 : Int32)) - (1 : Int32))]) (rest := []) ⟨hx, hb, hml, hown, hts⟩ (c_V_isConstant l dC dI aV aC aP aO cP s.heap.size vn vd vp ((vn - (1 : Int32)) - (1 : Int32)) o_4 hM_4) (cwV 1 hts (gwV wb_108 wb_110 wb_111 wb_112 wb_109) rfl rfl rfl (by decide +kernel) ⟨Nat.le_of_ble_eq_true rfl, Nat.le_of_ble_eq_true rfl⟩) (pr_V (hP.sub [0, 2] rfl) (hD.sub [0, 2] (by decide) rfl) hK hN [1] rfl (ci := 6) rfl rfl rfl) rfl rfl hl.1 rfl (lv_room (Nat.le_of_ble_eq_true rfl)) d_V_applyBetween_48 ⟨Nat.zero_le _, Nat.zero_le _⟩) hP hD hS hA (in_of [0, 2] rfl) (fun r_4 H locs hw hP hS => ?_)
        obtain ⟨hw, hz_4⟩ := hw
        subst r_4
        refine lv_if_eq (tgt := 88) hx hb d_V_applyBetween_51 (by decide) (fun c_5 => ?_) (fun c_5 => ?_)
        · rw [if_pos c_5] at hf
          refine lv_aload_n hx hb d_V_applyBetween_88 rfl (lv_at hl 2 rfl) ?_
          refine lv_iconst (v := (1 : Int32)) hx hb d_V_applyBetween_89 (by decide) ?_
          refine va_put (D := (dC, dI)) (ci := 6) (v := .int (1 : Int32)) (ty := .boolean) (C := R_V) (T := F_V) (N := 5) hx hb hts i_V ft_V tk_V n_V hown hK hP hD hS 0 rfl rfl 4 (by decide) (hts _ wb_104) (fun _ h9 => h9) rfl (by decide +kernel) rfl rfl (Nat.le_of_ble_eq_true rfl) d_V_applyBetween_90 (fun H locs hP hD hS => ?_)
          have hP : va_P (dC, dI) vwCl [(aV, .inr (6, [.ref aC, .ref aP, .ref aO, .int vn, .int (1 : Int32)])), (aC, .inl (cC, 512, .inr (.inl vc))), (aP, .inl (cP, 512, .inl vp)), (aO, .inl (cO, 512, .inl vo))] H := hP
          have hD : va_D A [(aV, .inr (6, [.ref aC, .ref aP, .ref aO, .int vn, .int (1 : Int32)])), (aC, .inl (cC, 512, .inr (.inl vc))), (aP, .inl (cP, 512, .inl vp)), (aO, .inl (cO, 512, .inl vo))] := hD
          refine lv_aload_n hx hb d_V_applyBetween_93 rfl (lv_at hl 2 rfl) ?_
          refine lv_iload_n hx hb d_V_applyBetween_94 rfl (lv_at hl 1 rfl) ?_
          refine va_put (D := (dC, dI)) (ci := 6) (v := .int (vn - (1 : Int32))) (ty := .int) (C := R_V) (T := F_V) (N := 5) hx hb hts i_V ft_V tk_V n_V hown hK hP hD hS 0 rfl rfl 3 (by decide) (hts _ wb_103) (fun _ h9 => h9) rfl (by decide +kernel) rfl rfl (Nat.le_of_ble_eq_true rfl) d_V_applyBetween_95 (fun H locs hP hD hS => ?_)
          have hP : va_P (dC, dI) vwCl [(aV, .inr (6, [.ref aC, .ref aP, .ref aO, .int (vn - (1 : Int32)), .int (1 : Int32)])), (aC, .inl (cC, 512, .inr (.inl vc))), (aP, .inl (cP, 512, .inl vp)), (aO, .inl (cO, 512, .inl vo))] H := hP
          have hD : va_D A [(aV, .inr (6, [.ref aC, .ref aP, .ref aO, .int (vn - (1 : Int32)), .int (1 : Int32)])), (aC, .inl (cC, 512, .inr (.inl vc))), (aP, .inl (cP, 512, .inl vp)), (aO, .inl (cO, 512, .inl vo))] := hD
          have ho := Option.some.inj hf
          subst o
          have hP9 := hP.sub (ws' := [(aV, .inr (6, [.ref aC, .ref aP, .ref aO, .int (vn - (1 : Int32)), .int (1 : Int32)])), (aC, .inl (cC, 512, .inr (.inl vc))), (aP, .inl (cP, 512, .inl vp)), (aO, .inl (cO, 512, .inl vo))]) [0, 1, 2, 3] rfl
          have hD9 := hD.sub (ws' := [(aV, .inr (6, [.ref aC, .ref aP, .ref aO, .int (vn - (1 : Int32)), .int (1 : Int32)])), (aC, .inl (cC, 512, .inr (.inl vc))), (aP, .inl (cP, 512, .inl vp)), (aO, .inl (cO, 512, .inl vo))]) [0, 1, 2, 3] (by decide) rfl
          exact W.vret hx hb hr (fun t ht hW => ⟨⟨(), rfl, trivial, by rw [ht]; exact hP9, va_K.moved hW.alike hK, hD9⟩, hS.F ht⟩) hS.2.2 d_V_applyBetween_98
        · rw [if_neg c_5] at hf
          refine lv_aload_n hx hb d_V_applyBetween_54 rfl (lv_at hl 2 rfl) ?_
          refine lv_iload_n hx hb d_V_applyBetween_55 rfl (lv_at hl 1 rfl) ?_
          obtain ⟨o_6, hM_6, hf⟩ := bd_some hf
          refine cr_i (va_runV (As := [.int (vn - (1 : Int32))]) (rest := []) ⟨hx, hb, hml, hown, hts⟩ (c_V_isConstant l dC dI aV aC aP aO cP H.size vn vd vp (vn - (1 : Int32)) o_6 hM_6) (cwV 1 hts (gwV wb_108 wb_110 wb_111 wb_112 wb_109) rfl rfl rfl (by decide +kernel) ⟨Nat.le_of_ble_eq_true rfl, Nat.le_of_ble_eq_true rfl⟩) (pr_V (hP.sub [0, 2] rfl) (hD.sub [0, 2] (by decide) rfl) hK hN [1] rfl (ci := 6) rfl rfl rfl) rfl rfl hl.1 rfl (lv_room (Nat.le_of_ble_eq_true rfl)) d_V_applyBetween_56 ⟨Nat.zero_le _, Nat.zero_le _⟩) hP hD hS hA (in_of [0, 2] rfl) (fun r_6 H locs hw hP hS => ?_)
          obtain ⟨hw, hz_6⟩ := hw
          subst r_6
          refine lv_if_eq (tgt := 88) hx hb d_V_applyBetween_59 (by decide) (fun c_7 => ?_) (fun c_7 => ?_)
          · rw [if_pos c_7] at hf
            refine lv_aload_n hx hb d_V_applyBetween_88 rfl (lv_at hl 2 rfl) ?_
            refine lv_iconst (v := (1 : Int32)) hx hb d_V_applyBetween_89 (by decide) ?_
            refine va_put (D := (dC, dI)) (ci := 6) (v := .int (1 : Int32)) (ty := .boolean) (C := R_V) (T := F_V) (N := 5) hx hb hts i_V ft_V tk_V n_V hown hK hP hD hS 0 rfl rfl 4 (by decide) (hts _ wb_104) (fun _ h9 => h9) rfl (by decide +kernel) rfl rfl (Nat.le_of_ble_eq_true rfl) d_V_applyBetween_90 (fun H locs hP hD hS => ?_)
            have hP : va_P (dC, dI) vwCl [(aV, .inr (6, [.ref aC, .ref aP, .ref aO, .int vn, .int (1 : Int32)])), (aC, .inl (cC, 512, .inr (.inl vc))), (aP, .inl (cP, 512, .inl vp)), (aO, .inl (cO, 512, .inl vo))] H := hP
            have hD : va_D A [(aV, .inr (6, [.ref aC, .ref aP, .ref aO, .int vn, .int (1 : Int32)])), (aC, .inl (cC, 512, .inr (.inl vc))), (aP, .inl (cP, 512, .inl vp)), (aO, .inl (cO, 512, .inl vo))] := hD
            refine lv_aload_n hx hb d_V_applyBetween_93 rfl (lv_at hl 2 rfl) ?_
            refine lv_iload_n hx hb d_V_applyBetween_94 rfl (lv_at hl 1 rfl) ?_
            refine va_put (D := (dC, dI)) (ci := 6) (v := .int (vn - (1 : Int32))) (ty := .int) (C := R_V) (T := F_V) (N := 5) hx hb hts i_V ft_V tk_V n_V hown hK hP hD hS 0 rfl rfl 3 (by decide) (hts _ wb_103) (fun _ h9 => h9) rfl (by decide +kernel) rfl rfl (Nat.le_of_ble_eq_true rfl) d_V_applyBetween_95 (fun H locs hP hD hS => ?_)
            have hP : va_P (dC, dI) vwCl [(aV, .inr (6, [.ref aC, .ref aP, .ref aO, .int (vn - (1 : Int32)), .int (1 : Int32)])), (aC, .inl (cC, 512, .inr (.inl vc))), (aP, .inl (cP, 512, .inl vp)), (aO, .inl (cO, 512, .inl vo))] H := hP
            have hD : va_D A [(aV, .inr (6, [.ref aC, .ref aP, .ref aO, .int (vn - (1 : Int32)), .int (1 : Int32)])), (aC, .inl (cC, 512, .inr (.inl vc))), (aP, .inl (cP, 512, .inl vp)), (aO, .inl (cO, 512, .inl vo))] := hD
            have ho := Option.some.inj hf
            subst o
            have hP9 := hP.sub (ws' := [(aV, .inr (6, [.ref aC, .ref aP, .ref aO, .int (vn - (1 : Int32)), .int (1 : Int32)])), (aC, .inl (cC, 512, .inr (.inl vc))), (aP, .inl (cP, 512, .inl vp)), (aO, .inl (cO, 512, .inl vo))]) [0, 1, 2, 3] rfl
            have hD9 := hD.sub (ws' := [(aV, .inr (6, [.ref aC, .ref aP, .ref aO, .int (vn - (1 : Int32)), .int (1 : Int32)])), (aC, .inl (cC, 512, .inr (.inl vc))), (aP, .inl (cP, 512, .inl vp)), (aO, .inl (cO, 512, .inl vo))]) [0, 1, 2, 3] (by decide) rfl
            exact W.vret hx hb hr (fun t ht hW => ⟨⟨(), rfl, trivial, by rw [ht]; exact hP9, va_K.moved hW.alike hK, hD9⟩, hS.F ht⟩) hS.2.2 d_V_applyBetween_98
          · rw [if_neg c_7] at hf
            refine lv_aload_n hx hb d_V_applyBetween_62 rfl (lv_at hl 2 rfl) ?_
            refine va_get (D := (dC, dI)) (ci := 6) (v := .ref aC) (C := R_V) (T := F_V) (N := 5) hx hb hts i_V hown hK hP 0 rfl rfl 0 (by decide) (hts _ wb_105) (fun _ h9 => h9) rfl d_V_applyBetween_63 ?_
            refine lv_iload_n hx hb d_V_applyBetween_66 rfl (lv_at hl 0 rfl) ?_
            refine lv_aload_n hx hb d_V_applyBetween_67 rfl (lv_at hl 2 rfl) ?_
            refine lv_iload_n hx hb d_V_applyBetween_68 rfl (lv_at hl 3 rfl) ?_
            refine lv_aload_n hx hb d_V_applyBetween_69 rfl (lv_at hl 2 rfl) ?_
            refine va_get (D := (dC, dI)) (ci := 6) (v := .ref aC) (C := R_V) (T := F_V) (N := 5) hx hb hts i_V hown hK hP 0 rfl rfl 0 (by decide) (hts _ wb_105) (fun _ h9 => h9) rfl d_V_applyBetween_70 ?_
            refine lv_iload_n hx hb d_V_applyBetween_73 rfl (lv_at hl 0 rfl) ?_
            obtain ⟨hin, hf⟩ := gi_some hf
            refine va_lald hx hb hK hP 1 0 rfl rfl hin d_V_applyBetween_74 ?_
            refine lv_aload_n hx hb d_V_applyBetween_75 rfl (lv_at hl 2 rfl) ?_
            refine va_get (D := (dC, dI)) (ci := 6) (v := .ref aC) (C := R_V) (T := F_V) (N := 5) hx hb hts i_V hown hK hP 0 rfl rfl 0 (by decide) (hts _ wb_105) (fun _ h9 => h9) rfl d_V_applyBetween_76 ?_
            refine lv_iload_n hx hb d_V_applyBetween_79 rfl (lv_at hl 1 rfl) ?_
            obtain ⟨hin, hf⟩ := gi_some hf
            refine va_lald hx hb hK hP 1 0 rfl rfl hin d_V_applyBetween_80 ?_
            obtain ⟨o_8, hM_8, hf⟩ := bd_some hf
            refine cl_l (wr := [(aC, .inl (cC, 512, .inr (.inl vc))), (aP, .inl (cP, 512, .inl vp)), (aO, .inl (cO, 512, .inl vo))]) (va_runV (As := [.int p0, .long (vc ((vn - (1 : Int32)) - (1 : Int32)).toNatClampNeg), .long (vc (vn - (1 : Int32)).toNatClampNeg)]) (rest := [.int ((vn - (1 : Int32)) - (1 : Int32)), .ref aC]) ⟨hx, hb, hml, hown, hts⟩ (c_V_combine l dC dI aV aC aP aO  H.size vn vd p0 (vc ((vn - (1 : Int32)) - (1 : Int32)).toNatClampNeg) (vc (vn - (1 : Int32)).toNatClampNeg) o_8 hM_8) (cwV 3 hts (gwV wb_123 wb_125 wb_126 wb_112 wb_124) rfl rfl rfl (by decide +kernel) ⟨Nat.le_of_ble_eq_true rfl, Nat.le_of_ble_eq_true rfl⟩) (pr_V (hP.sub [0] rfl) (hD.sub [0] (by decide) rfl) hK hN [] rfl (ci := 6) rfl rfl rfl) rfl rfl hl.1 rfl (lv_room (Nat.le_of_ble_eq_true rfl)) d_V_applyBetween_81 ⟨Nat.zero_le _, Nat.zero_le _⟩) hP hD hS hA [0] [1, 2, 3] rfl rfl (by decide) (by decide) (fun r_8 H locs hw hP hD hS => ?_)
            subst r_8
            have hP : va_P (dC, dI) vwCl [(aC, .inl (cC, 512, .inr (.inl vc))), (aP, .inl (cP, 512, .inl vp)), (aO, .inl (cO, 512, .inl vo)), (aV, .inr (6, [.ref aC, .ref aP, .ref aO, .int vn, .int o_8.2]))] H := hP
            have hD : va_D A [(aC, .inl (cC, 512, .inr (.inl vc))), (aP, .inl (cP, 512, .inl vp)), (aO, .inl (cO, 512, .inl vo)), (aV, .inr (6, [.ref aC, .ref aP, .ref aO, .int vn, .int o_8.2]))] := hD
            obtain ⟨hin, hf⟩ := gi_some hf
            refine va_last hx hb hK hP hD hS 0 0 rfl rfl hin d_V_applyBetween_84 (fun H locs hP hD hS => ?_)
            have hP : va_P (dC, dI) vwCl [(aC, .inl (cC, 512, .inr (.inl (vp_updL vc ((vn - (1 : Int32)) - (1 : Int32)).toNatClampNeg o_8.1)))), (aP, .inl (cP, 512, .inl vp)), (aO, .inl (cO, 512, .inl vo)), (aV, .inr (6, [.ref aC, .ref aP, .ref aO, .int vn, .int o_8.2]))] H := hP
            have hD : va_D A [(aC, .inl (cC, 512, .inr (.inl (vp_updL vc ((vn - (1 : Int32)) - (1 : Int32)).toNatClampNeg o_8.1)))), (aP, .inl (cP, 512, .inl vp)), (aO, .inl (cO, 512, .inl vo)), (aV, .inr (6, [.ref aC, .ref aP, .ref aO, .int vn, .int o_8.2]))] := hD
            refine lv_goto (tgt := 93) hx hb d_V_applyBetween_85 (by decide) ?_
            refine lv_aload_n hx hb d_V_applyBetween_93 rfl (lv_at hl 2 rfl) ?_
            refine lv_iload_n hx hb d_V_applyBetween_94 rfl (lv_at hl 1 rfl) ?_
            refine va_put (D := (dC, dI)) (ci := 6) (v := .int (vn - (1 : Int32))) (ty := .int) (C := R_V) (T := F_V) (N := 5) hx hb hts i_V ft_V tk_V n_V hown hK hP hD hS 3 rfl rfl 3 (by decide) (hts _ wb_103) (fun _ h9 => h9) rfl (by decide +kernel) rfl rfl (Nat.le_of_ble_eq_true rfl) d_V_applyBetween_95 (fun H locs hP hD hS => ?_)
            have hP : va_P (dC, dI) vwCl [(aC, .inl (cC, 512, .inr (.inl (vp_updL vc ((vn - (1 : Int32)) - (1 : Int32)).toNatClampNeg o_8.1)))), (aP, .inl (cP, 512, .inl vp)), (aO, .inl (cO, 512, .inl vo)), (aV, .inr (6, [.ref aC, .ref aP, .ref aO, .int (vn - (1 : Int32)), .int o_8.2]))] H := hP
            have hD : va_D A [(aC, .inl (cC, 512, .inr (.inl (vp_updL vc ((vn - (1 : Int32)) - (1 : Int32)).toNatClampNeg o_8.1)))), (aP, .inl (cP, 512, .inl vp)), (aO, .inl (cO, 512, .inl vo)), (aV, .inr (6, [.ref aC, .ref aP, .ref aO, .int (vn - (1 : Int32)), .int o_8.2]))] := hD
            have ho := Option.some.inj hf
            subst o
            have hP9 := hP.sub (ws' := [(aV, .inr (6, [.ref aC, .ref aP, .ref aO, .int (vn - (1 : Int32)), .int o_8.2])), (aC, .inl (cC, 512, .inr (.inl (vp_updL vc ((vn - (1 : Int32)) - (1 : Int32)).toNatClampNeg o_8.1)))), (aP, .inl (cP, 512, .inl vp)), (aO, .inl (cO, 512, .inl vo))]) [3, 0, 1, 2] rfl
            have hD9 := hD.sub (ws' := [(aV, .inr (6, [.ref aC, .ref aP, .ref aO, .int (vn - (1 : Int32)), .int o_8.2])), (aC, .inl (cC, 512, .inr (.inl (vp_updL vc ((vn - (1 : Int32)) - (1 : Int32)).toNatClampNeg o_8.1)))), (aP, .inl (cP, 512, .inl vp)), (aO, .inl (cO, 512, .inl vo))]) [3, 0, 1, 2] (by decide) rfl
            exact W.vret hx hb hr (fun t ht hW => ⟨⟨(), rfl, trivial, by rw [ht]; exact hP9, va_K.moved hW.alike hK, hD9⟩, hS.F ht⟩) hS.2.2 d_V_applyBetween_98
      · rw [if_pos c_3] at hf
        refine lv_aload_n hx hb d_V_applyBetween_37 rfl (lv_at hl 2 rfl) ?_
        refine lv_iload_n hx hb d_V_applyBetween_38 rfl (lv_at hl 0 rfl) ?_
        refine lv_iload_n hx hb d_V_applyBetween_39 rfl (lv_at hl 1 rfl) ?_
        obtain ⟨o_9, hM_9, hf⟩ := bd_some hf
        refine cl_v (wr := []) (va_runV (As := [.int ((vn - (1 : Int32)) - (1 : Int32)), .int (vn - (1 : Int32))]) (rest := []) ⟨hx, hb, hml, hown, hts⟩ (c_V_takeOff l dC dI aV aC aP aO cC cP cO s.heap.size vn vd vc vp vo ((vn - (1 : Int32)) - (1 : Int32)) (vn - (1 : Int32)) o_9 hM_9) (cwV 2 hts (gwV wb_127 wb_129 wb_130 wb_112 wb_128) rfl rfl rfl (by decide +kernel) ⟨Nat.le_of_ble_eq_true rfl, Nat.le_of_ble_eq_true rfl⟩) (pr_V (hP.sub [0, 1, 2, 3] rfl) (hD.sub [0, 1, 2, 3] (by decide) rfl) hK hN [0, 1, 2] rfl (ci := 6) rfl rfl rfl) rfl rfl hl.1 rfl (lv_room (Nat.le_of_ble_eq_true rfl)) d_V_applyBetween_40 ⟨Nat.zero_le _, Nat.zero_le _⟩) hP hD hS hA [0, 1, 2, 3] [] rfl rfl (by decide) (by decide) (fun H locs hw hP hD hS => ?_)
        have hP : va_P (dC, dI) vwCl [(aV, .inr (6, [.ref aC, .ref aP, .ref aO, .int vn, .int o_9.1])), (aC, .inl (cC, 512, .inr (.inl o_9.2.1))), (aP, .inl (cP, 512, .inl vp)), (aO, .inl (cO, 512, .inl o_9.2.2))] H := hP
        have hD : va_D A [(aV, .inr (6, [.ref aC, .ref aP, .ref aO, .int vn, .int o_9.1])), (aC, .inl (cC, 512, .inr (.inl o_9.2.1))), (aP, .inl (cP, 512, .inl vp)), (aO, .inl (cO, 512, .inl o_9.2.2))] := hD
        refine lv_goto (tgt := 93) hx hb d_V_applyBetween_43 (by decide) ?_
        refine lv_aload_n hx hb d_V_applyBetween_93 rfl (lv_at hl 2 rfl) ?_
        refine lv_iload_n hx hb d_V_applyBetween_94 rfl (lv_at hl 1 rfl) ?_
        refine va_put (D := (dC, dI)) (ci := 6) (v := .int (vn - (1 : Int32))) (ty := .int) (C := R_V) (T := F_V) (N := 5) hx hb hts i_V ft_V tk_V n_V hown hK hP hD hS 0 rfl rfl 3 (by decide) (hts _ wb_103) (fun _ h9 => h9) rfl (by decide +kernel) rfl rfl (Nat.le_of_ble_eq_true rfl) d_V_applyBetween_95 (fun H locs hP hD hS => ?_)
        have hP : va_P (dC, dI) vwCl [(aV, .inr (6, [.ref aC, .ref aP, .ref aO, .int (vn - (1 : Int32)), .int o_9.1])), (aC, .inl (cC, 512, .inr (.inl o_9.2.1))), (aP, .inl (cP, 512, .inl vp)), (aO, .inl (cO, 512, .inl o_9.2.2))] H := hP
        have hD : va_D A [(aV, .inr (6, [.ref aC, .ref aP, .ref aO, .int (vn - (1 : Int32)), .int o_9.1])), (aC, .inl (cC, 512, .inr (.inl o_9.2.1))), (aP, .inl (cP, 512, .inl vp)), (aO, .inl (cO, 512, .inl o_9.2.2))] := hD
        have ho := Option.some.inj hf
        subst o
        have hP9 := hP.sub (ws' := [(aV, .inr (6, [.ref aC, .ref aP, .ref aO, .int (vn - (1 : Int32)), .int o_9.1])), (aC, .inl (cC, 512, .inr (.inl o_9.2.1))), (aP, .inl (cP, 512, .inl vp)), (aO, .inl (cO, 512, .inl o_9.2.2))]) [0, 1, 2, 3] rfl
        have hD9 := hD.sub (ws' := [(aV, .inr (6, [.ref aC, .ref aP, .ref aO, .int (vn - (1 : Int32)), .int o_9.1])), (aC, .inl (cC, 512, .inr (.inl o_9.2.1))), (aP, .inl (cP, 512, .inl vp)), (aO, .inl (cO, 512, .inl o_9.2.2))]) [0, 1, 2, 3] (by decide) rfl
        exact W.vret hx hb hr (fun t ht hW => ⟨⟨(), rfl, trivial, by rw [ht]; exact hP9, va_K.moved hW.alike hK, hD9⟩, hS.F ht⟩) hS.2.2 d_V_applyBetween_98
    · rw [if_pos c_2] at hf
      refine lv_aload_n hx hb d_V_applyBetween_22 rfl (lv_at hl 2 rfl) ?_
      refine lv_iload_n hx hb d_V_applyBetween_23 rfl (lv_at hl 0 rfl) ?_
      refine lv_iload_n hx hb d_V_applyBetween_24 rfl (lv_at hl 1 rfl) ?_
      obtain ⟨o_10, hM_10, hf⟩ := bd_some hf
      refine cl_v (wr := []) (va_runV (As := [.int ((vn - (1 : Int32)) - (1 : Int32)), .int (vn - (1 : Int32))]) (rest := []) ⟨hx, hb, hml, hown, hts⟩ (c_V_add l dC dI aV aC aP aO cC cP cO s.heap.size vn vd vc vp vo ((vn - (1 : Int32)) - (1 : Int32)) (vn - (1 : Int32)) o_10 hM_10) (cwV 2 hts (gwV wb_131 wb_133 wb_134 wb_112 wb_132) rfl rfl rfl (by decide +kernel) ⟨Nat.le_of_ble_eq_true rfl, Nat.le_of_ble_eq_true rfl⟩) (pr_V (hP.sub [0, 1, 2, 3] rfl) (hD.sub [0, 1, 2, 3] (by decide) rfl) hK hN [0, 1, 2] rfl (ci := 6) rfl rfl rfl) rfl rfl hl.1 rfl (lv_room (Nat.le_of_ble_eq_true rfl)) d_V_applyBetween_25 ⟨Nat.zero_le _, Nat.zero_le _⟩) hP hD hS hA [0, 1, 2, 3] [] rfl rfl (by decide) (by decide) (fun H locs hw hP hD hS => ?_)
      have hP : va_P (dC, dI) vwCl [(aV, .inr (6, [.ref aC, .ref aP, .ref aO, .int vn, .int o_10.1])), (aC, .inl (cC, 512, .inr (.inl o_10.2.1))), (aP, .inl (cP, 512, .inl o_10.2.2.1)), (aO, .inl (cO, 512, .inl o_10.2.2.2))] H := hP
      have hD : va_D A [(aV, .inr (6, [.ref aC, .ref aP, .ref aO, .int vn, .int o_10.1])), (aC, .inl (cC, 512, .inr (.inl o_10.2.1))), (aP, .inl (cP, 512, .inl o_10.2.2.1)), (aO, .inl (cO, 512, .inl o_10.2.2.2))] := hD
      refine lv_goto (tgt := 93) hx hb d_V_applyBetween_28 (by decide) ?_
      refine lv_aload_n hx hb d_V_applyBetween_93 rfl (lv_at hl 2 rfl) ?_
      refine lv_iload_n hx hb d_V_applyBetween_94 rfl (lv_at hl 1 rfl) ?_
      refine va_put (D := (dC, dI)) (ci := 6) (v := .int (vn - (1 : Int32))) (ty := .int) (C := R_V) (T := F_V) (N := 5) hx hb hts i_V ft_V tk_V n_V hown hK hP hD hS 0 rfl rfl 3 (by decide) (hts _ wb_103) (fun _ h9 => h9) rfl (by decide +kernel) rfl rfl (Nat.le_of_ble_eq_true rfl) d_V_applyBetween_95 (fun H locs hP hD hS => ?_)
      have hP : va_P (dC, dI) vwCl [(aV, .inr (6, [.ref aC, .ref aP, .ref aO, .int (vn - (1 : Int32)), .int o_10.1])), (aC, .inl (cC, 512, .inr (.inl o_10.2.1))), (aP, .inl (cP, 512, .inl o_10.2.2.1)), (aO, .inl (cO, 512, .inl o_10.2.2.2))] H := hP
      have hD : va_D A [(aV, .inr (6, [.ref aC, .ref aP, .ref aO, .int (vn - (1 : Int32)), .int o_10.1])), (aC, .inl (cC, 512, .inr (.inl o_10.2.1))), (aP, .inl (cP, 512, .inl o_10.2.2.1)), (aO, .inl (cO, 512, .inl o_10.2.2.2))] := hD
      have ho := Option.some.inj hf
      subst o
      have hP9 := hP.sub (ws' := [(aV, .inr (6, [.ref aC, .ref aP, .ref aO, .int (vn - (1 : Int32)), .int o_10.1])), (aC, .inl (cC, 512, .inr (.inl o_10.2.1))), (aP, .inl (cP, 512, .inl o_10.2.2.1)), (aO, .inl (cO, 512, .inl o_10.2.2.2))]) [0, 1, 2, 3] rfl
      have hD9 := hD.sub (ws' := [(aV, .inr (6, [.ref aC, .ref aP, .ref aO, .int (vn - (1 : Int32)), .int o_10.1])), (aC, .inl (cC, 512, .inr (.inl o_10.2.1))), (aP, .inl (cP, 512, .inl o_10.2.2.1)), (aO, .inl (cO, 512, .inl o_10.2.2.2))]) [0, 1, 2, 3] (by decide) rfl
      exact W.vret hx hb hr (fun t ht hW => ⟨⟨(), rfl, trivial, by rw [ht]; exact hP9, va_K.moved hW.alike hK, hD9⟩, hS.F ht⟩) hS.2.2 d_V_applyBetween_98
  · rw [if_neg c_1] at hf
    have ho := Option.some.inj hf
    subst o
    have hP9 := hP.sub (ws' := [(aV, .inr (6, [.ref aC, .ref aP, .ref aO, .int vn, .int vd])), (aC, .inl (cC, 512, .inr (.inl vc))), (aP, .inl (cP, 512, .inl vp)), (aO, .inl (cO, 512, .inl vo))]) [0, 1, 2, 3] rfl
    have hD9 := hD.sub (ws' := [(aV, .inr (6, [.ref aC, .ref aP, .ref aO, .int vn, .int vd])), (aC, .inl (cC, 512, .inr (.inl vc))), (aP, .inl (cP, 512, .inl vp)), (aO, .inl (cO, 512, .inl vo))]) [0, 1, 2, 3] (by decide) rfl
    exact W.vret hx hb hr (fun t ht hW => ⟨⟨(), rfl, trivial, by rw [ht]; exact hP9, va_K.moved hW.alike hK, hD9⟩, hS.F ht⟩) hS.2.2 d_V_applyBetween_15
