theorem d_M_thrown_0 : decode b_M_thrown 0 = .ok (.aload_n 0, 1) := by decide +kernel
theorem d_M_thrown_1 : decode b_M_thrown 1 = .ok (.getfield 61, 3) := by decide +kernel
theorem d_M_thrown_4 : decode b_M_thrown 4 = .ok (.ireturn, 1) := by decide +kernel
theorem d_M_type_0 : decode b_M_type 0 = .ok (.aload_n 0, 1) := by decide +kernel
theorem d_M_type_1 : decode b_M_type 1 = .ok (.iconst 0, 1) := by decide +kernel
theorem d_M_type_2 : decode b_M_type 2 = .ok (.putfield 61, 3) := by decide +kernel
theorem d_M_type_5 : decode b_M_type 5 = .ok (.iload_n 3, 1) := by decide +kernel
theorem d_M_type_6 : decode b_M_type 6 = .ok (.iconst 1, 1) := by decide +kernel
theorem d_M_type_7 : decode b_M_type 7 = .ok (.if_icmp .lt 21, 3) := by decide +kernel
theorem d_M_type_10 : decode b_M_type 10 = .ok (.iload_n 3, 1) := by decide +kernel
theorem d_M_type_11 : decode b_M_type 11 = .ok (.bipush 8, 2) := by decide +kernel
theorem d_M_type_13 : decode b_M_type 13 = .ok (.if_icmp .gt 15, 3) := by decide +kernel
theorem d_M_type_16 : decode b_M_type 16 = .ok (.aload_n 0, 1) := by decide +kernel
theorem d_M_type_17 : decode b_M_type 17 = .ok (.getfield 64, 3) := by decide +kernel
theorem d_M_type_20 : decode b_M_type 20 = .ok (.iload_n 3, 1) := by decide +kernel
theorem d_M_type_21 : decode b_M_type 21 = .ok (.iadd, 1) := by decide +kernel
theorem d_M_type_22 : decode b_M_type 22 = .ok (.sipush 1024, 3) := by decide +kernel
theorem d_M_type_25 : decode b_M_type 25 = .ok (.if_icmp .le 5, 3) := by decide +kernel
theorem d_M_type_28 : decode b_M_type 28 = .ok (.iconst 0, 1) := by decide +kernel
theorem d_M_type_29 : decode b_M_type 29 = .ok (.ireturn, 1) := by decide +kernel
theorem d_M_type_30 : decode b_M_type 30 = .ok (.iload_n 3, 1) := by decide +kernel
theorem d_M_type_31 : decode b_M_type 31 = .ok (.iconst 1, 1) := by decide +kernel
theorem d_M_type_32 : decode b_M_type 32 = .ok (.isub, 1) := by decide +kernel
theorem d_M_type_33 : decode b_M_type 33 = .ok (.istore 4, 2) := by decide +kernel
theorem d_M_type_35 : decode b_M_type 35 = .ok (.iload 4, 2) := by decide +kernel
theorem d_M_type_37 : decode b_M_type 37 = .ok (.ifCond .lt 40, 3) := by decide +kernel
theorem d_M_type_40 : decode b_M_type 40 = .ok (.aload_n 0, 1) := by decide +kernel
theorem d_M_type_41 : decode b_M_type 41 = .ok (.getfield 7, 3) := by decide +kernel
theorem d_M_type_44 : decode b_M_type 44 = .ok (.aload_n 0, 1) := by decide +kernel
theorem d_M_type_45 : decode b_M_type 45 = .ok (.getfield 64, 3) := by decide +kernel
theorem d_M_type_48 : decode b_M_type 48 = .ok (.lload_n 1, 1) := by decide +kernel
theorem d_M_type_49 : decode b_M_type 49 = .ok (.bipush 8, 2) := by decide +kernel
theorem d_M_type_51 : decode b_M_type 51 = .ok (.iload 4, 2) := by decide +kernel
theorem d_M_type_53 : decode b_M_type 53 = .ok (.imul, 1) := by decide +kernel
theorem d_M_type_54 : decode b_M_type 54 = .ok (.lshr, 1) := by decide +kernel
theorem d_M_type_55 : decode b_M_type 55 = .ok (.ldc2_w 67, 3) := by decide +kernel
theorem d_M_type_58 : decode b_M_type 58 = .ok (.land, 1) := by decide +kernel
theorem d_M_type_59 : decode b_M_type 59 = .ok (.l2i, 1) := by decide +kernel
theorem d_M_type_60 : decode b_M_type 60 = .ok (.iastore, 1) := by decide +kernel
theorem d_M_type_61 : decode b_M_type 61 = .ok (.aload_n 0, 1) := by decide +kernel
theorem d_M_type_62 : decode b_M_type 62 = .ok (.dup, 1) := by decide +kernel
theorem d_M_type_63 : decode b_M_type 63 = .ok (.getfield 64, 3) := by decide +kernel
theorem d_M_type_66 : decode b_M_type 66 = .ok (.iconst 1, 1) := by decide +kernel
theorem d_M_type_67 : decode b_M_type 67 = .ok (.iadd, 1) := by decide +kernel
theorem d_M_type_68 : decode b_M_type 68 = .ok (.putfield 64, 3) := by decide +kernel
theorem d_M_type_71 : decode b_M_type 71 = .ok (.iinc 4 (-1), 3) := by decide +kernel
theorem d_M_type_74 : decode b_M_type 74 = .ok (.goto (-39), 3) := by decide +kernel
theorem d_M_type_77 : decode b_M_type 77 = .ok (.iconst 1, 1) := by decide +kernel
theorem d_M_type_78 : decode b_M_type 78 = .ok (.ireturn, 1) := by decide +kernel
theorem d_M_isLetter_0 : decode b_M_isLetter 0 = .ok (.iload_n 0, 1) := by decide +kernel
theorem d_M_isLetter_1 : decode b_M_isLetter 1 = .ok (.bipush 97, 2) := by decide +kernel
theorem d_M_isLetter_3 : decode b_M_isLetter 3 = .ok (.if_icmp .lt 9, 3) := by decide +kernel
theorem d_M_isLetter_6 : decode b_M_isLetter 6 = .ok (.iload_n 0, 1) := by decide +kernel
theorem d_M_isLetter_7 : decode b_M_isLetter 7 = .ok (.bipush 122, 2) := by decide +kernel
theorem d_M_isLetter_9 : decode b_M_isLetter 9 = .ok (.if_icmp .le 27, 3) := by decide +kernel
theorem d_M_isLetter_12 : decode b_M_isLetter 12 = .ok (.iload_n 0, 1) := by decide +kernel
theorem d_M_isLetter_13 : decode b_M_isLetter 13 = .ok (.bipush 65, 2) := by decide +kernel
theorem d_M_isLetter_15 : decode b_M_isLetter 15 = .ok (.if_icmp .lt 9, 3) := by decide +kernel
theorem d_M_isLetter_18 : decode b_M_isLetter 18 = .ok (.iload_n 0, 1) := by decide +kernel
theorem d_M_isLetter_19 : decode b_M_isLetter 19 = .ok (.bipush 90, 2) := by decide +kernel
theorem d_M_isLetter_21 : decode b_M_isLetter 21 = .ok (.if_icmp .le 15, 3) := by decide +kernel
theorem d_M_isLetter_24 : decode b_M_isLetter 24 = .ok (.iload_n 0, 1) := by decide +kernel
theorem d_M_isLetter_25 : decode b_M_isLetter 25 = .ok (.bipush 95, 2) := by decide +kernel
theorem d_M_isLetter_27 : decode b_M_isLetter 27 = .ok (.if_icmp .eq 9, 3) := by decide +kernel
theorem d_M_isLetter_30 : decode b_M_isLetter 30 = .ok (.iload_n 0, 1) := by decide +kernel
theorem d_M_isLetter_31 : decode b_M_isLetter 31 = .ok (.bipush 46, 2) := by decide +kernel
theorem d_M_isLetter_33 : decode b_M_isLetter 33 = .ok (.if_icmp .ne 7, 3) := by decide +kernel
theorem d_M_isLetter_36 : decode b_M_isLetter 36 = .ok (.iconst 1, 1) := by decide +kernel
theorem d_M_isLetter_37 : decode b_M_isLetter 37 = .ok (.goto 4, 3) := by decide +kernel
theorem d_M_isLetter_40 : decode b_M_isLetter 40 = .ok (.iconst 0, 1) := by decide +kernel
theorem d_M_isLetter_41 : decode b_M_isLetter 41 = .ok (.ireturn, 1) := by decide +kernel
theorem d_M_isDigit_0 : decode b_M_isDigit 0 = .ok (.iload_n 0, 1) := by decide +kernel
theorem d_M_isDigit_1 : decode b_M_isDigit 1 = .ok (.bipush 48, 2) := by decide +kernel
theorem d_M_isDigit_3 : decode b_M_isDigit 3 = .ok (.if_icmp .lt 13, 3) := by decide +kernel
theorem d_M_isDigit_6 : decode b_M_isDigit 6 = .ok (.iload_n 0, 1) := by decide +kernel
theorem d_M_isDigit_7 : decode b_M_isDigit 7 = .ok (.bipush 57, 2) := by decide +kernel
theorem d_M_isDigit_9 : decode b_M_isDigit 9 = .ok (.if_icmp .gt 7, 3) := by decide +kernel
theorem d_M_isDigit_12 : decode b_M_isDigit 12 = .ok (.iconst 1, 1) := by decide +kernel
theorem d_M_isDigit_13 : decode b_M_isDigit 13 = .ok (.goto 4, 3) := by decide +kernel
theorem d_M_isDigit_16 : decode b_M_isDigit 16 = .ok (.iconst 0, 1) := by decide +kernel
theorem d_M_isDigit_17 : decode b_M_isDigit 17 = .ok (.ireturn, 1) := by decide +kernel
theorem d_M_isPart_0 : decode b_M_isPart 0 = .ok (.iload_n 1, 1) := by decide +kernel
theorem d_M_isPart_1 : decode b_M_isPart 1 = .ok (.aload_n 0, 1) := by decide +kernel
theorem d_M_isPart_2 : decode b_M_isPart 2 = .ok (.getfield 64, 3) := by decide +kernel
theorem d_M_isPart_5 : decode b_M_isPart 5 = .ok (.if_icmp .ge 31, 3) := by decide +kernel
theorem d_M_isPart_8 : decode b_M_isPart 8 = .ok (.aload_n 0, 1) := by decide +kernel
theorem d_M_isPart_9 : decode b_M_isPart 9 = .ok (.getfield 7, 3) := by decide +kernel
theorem d_M_isPart_12 : decode b_M_isPart 12 = .ok (.iload_n 1, 1) := by decide +kernel
theorem d_M_isPart_13 : decode b_M_isPart 13 = .ok (.iaload, 1) := by decide +kernel
theorem d_M_isPart_14 : decode b_M_isPart 14 = .ok (.invokestatic 69, 3) := by decide +kernel
theorem d_M_isPart_17 : decode b_M_isPart 17 = .ok (.ifCond .ne 15, 3) := by decide +kernel
theorem d_M_isPart_20 : decode b_M_isPart 20 = .ok (.aload_n 0, 1) := by decide +kernel
theorem d_M_isPart_21 : decode b_M_isPart 21 = .ok (.getfield 7, 3) := by decide +kernel
theorem d_M_isPart_24 : decode b_M_isPart 24 = .ok (.iload_n 1, 1) := by decide +kernel
theorem d_M_isPart_25 : decode b_M_isPart 25 = .ok (.iaload, 1) := by decide +kernel
theorem d_M_isPart_26 : decode b_M_isPart 26 = .ok (.invokestatic 73, 3) := by decide +kernel
theorem d_M_isPart_29 : decode b_M_isPart 29 = .ok (.ifCond .eq 7, 3) := by decide +kernel
theorem d_M_isPart_32 : decode b_M_isPart 32 = .ok (.iconst 1, 1) := by decide +kernel
theorem d_M_isPart_33 : decode b_M_isPart 33 = .ok (.goto 4, 3) := by decide +kernel
theorem d_M_isPart_36 : decode b_M_isPart 36 = .ok (.iconst 0, 1) := by decide +kernel
theorem d_M_isPart_37 : decode b_M_isPart 37 = .ok (.ireturn, 1) := by decide +kernel
theorem d_M_digit_0 : decode b_M_digit 0 = .ok (.iload_n 0, 1) := by decide +kernel
theorem d_M_digit_1 : decode b_M_digit 1 = .ok (.invokestatic 73, 3) := by decide +kernel
theorem d_M_digit_4 : decode b_M_digit 4 = .ok (.ifCond .eq 10, 3) := by decide +kernel
theorem d_M_digit_7 : decode b_M_digit 7 = .ok (.iload_n 0, 1) := by decide +kernel
theorem d_M_digit_8 : decode b_M_digit 8 = .ok (.bipush 48, 2) := by decide +kernel
theorem d_M_digit_10 : decode b_M_digit 10 = .ok (.isub, 1) := by decide +kernel
theorem d_M_digit_11 : decode b_M_digit 11 = .ok (.goto 43, 3) := by decide +kernel
theorem d_M_digit_14 : decode b_M_digit 14 = .ok (.iload_n 0, 1) := by decide +kernel
theorem d_M_digit_15 : decode b_M_digit 15 = .ok (.bipush 97, 2) := by decide +kernel
theorem d_M_digit_17 : decode b_M_digit 17 = .ok (.if_icmp .lt 16, 3) := by decide +kernel
theorem d_M_digit_20 : decode b_M_digit 20 = .ok (.iload_n 0, 1) := by decide +kernel
theorem d_M_digit_21 : decode b_M_digit 21 = .ok (.bipush 102, 2) := by decide +kernel
theorem d_M_digit_23 : decode b_M_digit 23 = .ok (.if_icmp .gt 10, 3) := by decide +kernel
theorem d_M_digit_26 : decode b_M_digit 26 = .ok (.iload_n 0, 1) := by decide +kernel
theorem d_M_digit_27 : decode b_M_digit 27 = .ok (.bipush 87, 2) := by decide +kernel
theorem d_M_digit_29 : decode b_M_digit 29 = .ok (.isub, 1) := by decide +kernel
theorem d_M_digit_30 : decode b_M_digit 30 = .ok (.goto 24, 3) := by decide +kernel
theorem d_M_digit_33 : decode b_M_digit 33 = .ok (.iload_n 0, 1) := by decide +kernel
theorem d_M_digit_34 : decode b_M_digit 34 = .ok (.bipush 65, 2) := by decide +kernel
theorem d_M_digit_36 : decode b_M_digit 36 = .ok (.if_icmp .lt 16, 3) := by decide +kernel
theorem d_M_digit_39 : decode b_M_digit 39 = .ok (.iload_n 0, 1) := by decide +kernel
theorem d_M_digit_40 : decode b_M_digit 40 = .ok (.bipush 70, 2) := by decide +kernel
theorem d_M_digit_42 : decode b_M_digit 42 = .ok (.if_icmp .gt 10, 3) := by decide +kernel
theorem d_M_digit_45 : decode b_M_digit 45 = .ok (.iload_n 0, 1) := by decide +kernel
theorem d_M_digit_46 : decode b_M_digit 46 = .ok (.bipush 55, 2) := by decide +kernel
theorem d_M_digit_48 : decode b_M_digit 48 = .ok (.isub, 1) := by decide +kernel
theorem d_M_digit_49 : decode b_M_digit 49 = .ok (.goto 5, 3) := by decide +kernel
theorem d_M_digit_52 : decode b_M_digit 52 = .ok (.bipush 99, 2) := by decide +kernel
theorem d_M_digit_54 : decode b_M_digit 54 = .ok (.ireturn, 1) := by decide +kernel
theorem d_M_add_0 : decode b_M_add 0 = .ok (.aload_n 0, 1) := by decide +kernel
theorem d_M_add_1 : decode b_M_add 1 = .ok (.getfield 30, 3) := by decide +kernel
theorem d_M_add_4 : decode b_M_add 4 = .ok (.aload_n 0, 1) := by decide +kernel
theorem d_M_add_5 : decode b_M_add 5 = .ok (.getfield 76, 3) := by decide +kernel
theorem d_M_add_8 : decode b_M_add 8 = .ok (.iload_n 1, 1) := by decide +kernel
theorem d_M_add_9 : decode b_M_add 9 = .ok (.iastore, 1) := by decide +kernel
theorem d_M_add_10 : decode b_M_add 10 = .ok (.aload_n 0, 1) := by decide +kernel
theorem d_M_add_11 : decode b_M_add 11 = .ok (.getfield 33, 3) := by decide +kernel
theorem d_M_add_14 : decode b_M_add 14 = .ok (.aload_n 0, 1) := by decide +kernel
theorem d_M_add_15 : decode b_M_add 15 = .ok (.getfield 76, 3) := by decide +kernel
theorem d_M_add_18 : decode b_M_add 18 = .ok (.iload_n 2, 1) := by decide +kernel
theorem d_M_add_19 : decode b_M_add 19 = .ok (.iastore, 1) := by decide +kernel
theorem d_M_add_20 : decode b_M_add 20 = .ok (.aload_n 0, 1) := by decide +kernel
theorem d_M_add_21 : decode b_M_add 21 = .ok (.getfield 36, 3) := by decide +kernel
theorem d_M_add_24 : decode b_M_add 24 = .ok (.aload_n 0, 1) := by decide +kernel
theorem d_M_add_25 : decode b_M_add 25 = .ok (.getfield 76, 3) := by decide +kernel
theorem d_M_add_28 : decode b_M_add 28 = .ok (.iload_n 3, 1) := by decide +kernel
theorem d_M_add_29 : decode b_M_add 29 = .ok (.iastore, 1) := by decide +kernel
theorem d_M_add_30 : decode b_M_add 30 = .ok (.aload_n 0, 1) := by decide +kernel
theorem d_M_add_31 : decode b_M_add 31 = .ok (.getfield 39, 3) := by decide +kernel
theorem d_M_add_34 : decode b_M_add 34 = .ok (.aload_n 0, 1) := by decide +kernel
theorem d_M_add_35 : decode b_M_add 35 = .ok (.getfield 76, 3) := by decide +kernel
theorem d_M_add_38 : decode b_M_add 38 = .ok (.lload 4, 2) := by decide +kernel
theorem d_M_add_40 : decode b_M_add 40 = .ok (.lastore, 1) := by decide +kernel
theorem d_M_add_41 : decode b_M_add 41 = .ok (.aload_n 0, 1) := by decide +kernel
theorem d_M_add_42 : decode b_M_add 42 = .ok (.dup, 1) := by decide +kernel
theorem d_M_add_43 : decode b_M_add 43 = .ok (.getfield 76, 3) := by decide +kernel
theorem d_M_add_46 : decode b_M_add 46 = .ok (.iconst 1, 1) := by decide +kernel
theorem d_M_add_47 : decode b_M_add 47 = .ok (.iadd, 1) := by decide +kernel
theorem d_M_add_48 : decode b_M_add 48 = .ok (.putfield 76, 3) := by decide +kernel
theorem d_M_add_51 : decode b_M_add 51 = .ok (.return_, 1) := by decide +kernel
theorem d_M_isPlain_0 : decode b_M_isPlain 0 = .ok (.iload_n 1, 1) := by decide +kernel
theorem d_M_isPlain_1 : decode b_M_isPlain 1 = .ok (.aload_n 0, 1) := by decide +kernel
theorem d_M_isPlain_2 : decode b_M_isPlain 2 = .ok (.getfield 64, 3) := by decide +kernel
theorem d_M_isPlain_5 : decode b_M_isPlain 5 = .ok (.if_icmp .ge 29, 3) := by decide +kernel
theorem d_M_isPlain_8 : decode b_M_isPlain 8 = .ok (.aload_n 0, 1) := by decide +kernel
theorem d_M_isPlain_9 : decode b_M_isPlain 9 = .ok (.getfield 7, 3) := by decide +kernel
theorem d_M_isPlain_12 : decode b_M_isPlain 12 = .ok (.iload_n 1, 1) := by decide +kernel
theorem d_M_isPlain_13 : decode b_M_isPlain 13 = .ok (.iaload, 1) := by decide +kernel
theorem d_M_isPlain_14 : decode b_M_isPlain 14 = .ok (.bipush 32, 2) := by decide +kernel
theorem d_M_isPlain_16 : decode b_M_isPlain 16 = .ok (.if_icmp .lt 18, 3) := by decide +kernel
theorem d_M_isPlain_19 : decode b_M_isPlain 19 = .ok (.aload_n 0, 1) := by decide +kernel
theorem d_M_isPlain_20 : decode b_M_isPlain 20 = .ok (.getfield 7, 3) := by decide +kernel
theorem d_M_isPlain_23 : decode b_M_isPlain 23 = .ok (.iload_n 1, 1) := by decide +kernel
theorem d_M_isPlain_24 : decode b_M_isPlain 24 = .ok (.iaload, 1) := by decide +kernel
theorem d_M_isPlain_25 : decode b_M_isPlain 25 = .ok (.bipush 126, 2) := by decide +kernel
theorem d_M_isPlain_27 : decode b_M_isPlain 27 = .ok (.if_icmp .gt 7, 3) := by decide +kernel
theorem d_M_isPlain_30 : decode b_M_isPlain 30 = .ok (.iconst 1, 1) := by decide +kernel
theorem d_M_isPlain_31 : decode b_M_isPlain 31 = .ok (.goto 4, 3) := by decide +kernel
theorem d_M_isPlain_34 : decode b_M_isPlain 34 = .ok (.iconst 0, 1) := by decide +kernel
theorem d_M_isPlain_35 : decode b_M_isPlain 35 = .ok (.ireturn, 1) := by decide +kernel
theorem d_M_character_0 : decode b_M_character 0 = .ok (.aload_n 0, 1) := by decide +kernel
theorem d_M_character_1 : decode b_M_character 1 = .ok (.iload_n 1, 1) := by decide +kernel
theorem d_M_character_2 : decode b_M_character 2 = .ok (.invokevirtual 79, 3) := by decide +kernel
theorem d_M_character_5 : decode b_M_character 5 = .ok (.ifCond .eq 13, 3) := by decide +kernel
theorem d_M_character_8 : decode b_M_character 8 = .ok (.aload_n 0, 1) := by decide +kernel
theorem d_M_character_9 : decode b_M_character 9 = .ok (.getfield 7, 3) := by decide +kernel
theorem d_M_character_12 : decode b_M_character 12 = .ok (.iload_n 1, 1) := by decide +kernel
theorem d_M_character_13 : decode b_M_character 13 = .ok (.iaload, 1) := by decide +kernel
theorem d_M_character_14 : decode b_M_character 14 = .ok (.iload_n 2, 1) := by decide +kernel
theorem d_M_character_15 : decode b_M_character 15 = .ok (.if_icmp .ne 5, 3) := by decide +kernel
theorem d_M_character_18 : decode b_M_character 18 = .ok (.iconst (-1), 1) := by decide +kernel
theorem d_M_character_19 : decode b_M_character 19 = .ok (.ireturn, 1) := by decide +kernel
theorem d_M_character_20 : decode b_M_character 20 = .ok (.aload_n 0, 1) := by decide +kernel
theorem d_M_character_21 : decode b_M_character 21 = .ok (.aload_n 0, 1) := by decide +kernel
theorem d_M_character_22 : decode b_M_character 22 = .ok (.getfield 7, 3) := by decide +kernel
theorem d_M_character_25 : decode b_M_character 25 = .ok (.iload_n 1, 1) := by decide +kernel
theorem d_M_character_26 : decode b_M_character 26 = .ok (.iaload, 1) := by decide +kernel
theorem d_M_character_27 : decode b_M_character 27 = .ok (.putfield 82, 3) := by decide +kernel
theorem d_M_character_30 : decode b_M_character 30 = .ok (.aload_n 0, 1) := by decide +kernel
theorem d_M_character_31 : decode b_M_character 31 = .ok (.getfield 82, 3) := by decide +kernel
theorem d_M_character_34 : decode b_M_character 34 = .ok (.bipush 92, 2) := by decide +kernel
theorem d_M_character_36 : decode b_M_character 36 = .ok (.if_icmp .eq 7, 3) := by decide +kernel
theorem d_M_character_39 : decode b_M_character 39 = .ok (.iload_n 1, 1) := by decide +kernel
theorem d_M_character_40 : decode b_M_character 40 = .ok (.iconst 1, 1) := by decide +kernel
theorem d_M_character_41 : decode b_M_character 41 = .ok (.iadd, 1) := by decide +kernel
theorem d_M_character_42 : decode b_M_character 42 = .ok (.ireturn, 1) := by decide +kernel
theorem d_M_character_43 : decode b_M_character 43 = .ok (.aload_n 0, 1) := by decide +kernel
theorem d_M_character_44 : decode b_M_character 44 = .ok (.iload_n 1, 1) := by decide +kernel
theorem d_M_character_45 : decode b_M_character 45 = .ok (.iconst 1, 1) := by decide +kernel
theorem d_M_character_46 : decode b_M_character 46 = .ok (.iadd, 1) := by decide +kernel
theorem d_M_character_47 : decode b_M_character 47 = .ok (.invokevirtual 79, 3) := by decide +kernel
theorem d_M_character_50 : decode b_M_character 50 = .ok (.ifCond .ne 5, 3) := by decide +kernel
theorem d_M_character_53 : decode b_M_character 53 = .ok (.iconst (-1), 1) := by decide +kernel
theorem d_M_character_54 : decode b_M_character 54 = .ok (.ireturn, 1) := by decide +kernel
theorem d_M_character_55 : decode b_M_character 55 = .ok (.aload_n 0, 1) := by decide +kernel
theorem d_M_character_56 : decode b_M_character 56 = .ok (.getfield 7, 3) := by decide +kernel
theorem d_M_character_59 : decode b_M_character 59 = .ok (.iload_n 1, 1) := by decide +kernel
theorem d_M_character_60 : decode b_M_character 60 = .ok (.iconst 1, 1) := by decide +kernel
theorem d_M_character_61 : decode b_M_character 61 = .ok (.iadd, 1) := by decide +kernel
theorem d_M_character_62 : decode b_M_character 62 = .ok (.iaload, 1) := by decide +kernel
theorem d_M_character_63 : decode b_M_character 63 = .ok (.istore_n 3, 1) := by decide +kernel
theorem d_M_character_64 : decode b_M_character 64 = .ok (.aload_n 0, 1) := by decide +kernel
theorem d_M_character_65 : decode b_M_character 65 = .ok (.iload_n 3, 1) := by decide +kernel
theorem d_M_character_66 : decode b_M_character 66 = .ok (.bipush 110, 2) := by decide +kernel
theorem d_M_character_68 : decode b_M_character 68 = .ok (.if_icmp .ne 8, 3) := by decide +kernel
theorem d_M_character_71 : decode b_M_character 71 = .ok (.bipush 10, 2) := by decide +kernel
theorem d_M_character_73 : decode b_M_character 73 = .ok (.goto 25, 3) := by decide +kernel
theorem d_M_character_76 : decode b_M_character 76 = .ok (.iload_n 3, 1) := by decide +kernel
theorem d_M_character_77 : decode b_M_character 77 = .ok (.bipush 116, 2) := by decide +kernel
theorem d_M_character_79 : decode b_M_character 79 = .ok (.if_icmp .ne 8, 3) := by decide +kernel
theorem d_M_character_82 : decode b_M_character 82 = .ok (.bipush 9, 2) := by decide +kernel
theorem d_M_character_84 : decode b_M_character 84 = .ok (.goto 14, 3) := by decide +kernel
theorem d_M_character_87 : decode b_M_character 87 = .ok (.iload_n 3, 1) := by decide +kernel
theorem d_M_character_88 : decode b_M_character 88 = .ok (.bipush 48, 2) := by decide +kernel
theorem d_M_character_90 : decode b_M_character 90 = .ok (.if_icmp .ne 7, 3) := by decide +kernel
theorem d_M_character_93 : decode b_M_character 93 = .ok (.iconst 0, 1) := by decide +kernel
theorem d_M_character_94 : decode b_M_character 94 = .ok (.goto 4, 3) := by decide +kernel
theorem d_M_character_97 : decode b_M_character 97 = .ok (.iload_n 3, 1) := by decide +kernel
theorem d_M_character_98 : decode b_M_character 98 = .ok (.putfield 82, 3) := by decide +kernel
theorem d_M_character_101 : decode b_M_character 101 = .ok (.iload_n 1, 1) := by decide +kernel
theorem d_M_character_102 : decode b_M_character 102 = .ok (.iconst 2, 1) := by decide +kernel
theorem d_M_character_103 : decode b_M_character 103 = .ok (.iadd, 1) := by decide +kernel
theorem d_M_character_104 : decode b_M_character 104 = .ok (.ireturn, 1) := by decide +kernel
theorem wb_172 : Cond.fieldLink R_M 61 R_M "thrown" "I" ∈ WB := wbm (i := 873) (by decide +kernel) rfl
theorem wb_173 : Cond.fieldLink R_M 64 R_M "length" "I" ∈ WB := wbm (i := 875) (by decide +kernel) rfl
theorem wb_174 : Cond.fieldLink R_M 7 R_M "line" "[I" ∈ WB := wbm (i := 874) (by decide +kernel) rfl
theorem wb_175 : Cond.constantLong R_M 67 (255 : Int64) ∈ WB := wbm (i := 963) (by decide +kernel) rfl
theorem wb_176 : Cond.methodLink R_M 69 y_M_isLetter ∈ WB := wbm (i := 995) (by decide +kernel) rfl
theorem wb_177 : Cond.code y_M_isLetter b_M_isLetter 1 (some .boolean) ∈ WB := wbm (i := 997) (by decide +kernel) rfl
theorem wb_178 : Cond.static y_M_isLetter ∈ WB := wbm (i := 996) (by decide +kernel) rfl
theorem wb_179 : Cond.initialized R_M ∈ WB := wbm (i := 56) (by decide +kernel) rfl
theorem wb_180 : Cond.methodLink R_M 73 y_M_isDigit ∈ WB := wbm (i := 980) (by decide +kernel) rfl
theorem wb_181 : Cond.code y_M_isDigit b_M_isDigit 1 (some .boolean) ∈ WB := wbm (i := 982) (by decide +kernel) rfl
theorem wb_182 : Cond.static y_M_isDigit ∈ WB := wbm (i := 981) (by decide +kernel) rfl
theorem wb_183 : Cond.fieldLink R_M 30 R_M "kind" "[I" ∈ WB := wbm (i := 884) (by decide +kernel) rfl
theorem wb_184 : Cond.fieldLink R_M 76 R_M "tokens" "I" ∈ WB := wbm (i := 888) (by decide +kernel) rfl
theorem wb_185 : Cond.fieldLink R_M 33 R_M "begin" "[I" ∈ WB := wbm (i := 885) (by decide +kernel) rfl
theorem wb_186 : Cond.fieldLink R_M 36 R_M "end" "[I" ∈ WB := wbm (i := 886) (by decide +kernel) rfl
theorem wb_187 : Cond.fieldLink R_M 39 R_M "worth" "[J" ∈ WB := wbm (i := 887) (by decide +kernel) rfl
theorem wb_188 : Cond.methodLink R_M 79 y_M_isPlain ∈ WB := wbm (i := 1006) (by decide +kernel) rfl
theorem wb_189 : Cond.code y_M_isPlain b_M_isPlain 2 (some .boolean) ∈ WB := wbm (i := 1009) (by decide +kernel) rfl
theorem wb_190 : Cond.instanceMethod y_M_isPlain ∈ WB := wbm (i := 1008) (by decide +kernel) rfl
theorem wb_191 : Cond.selects R_M y_M_isPlain y_M_isPlain ∈ WB := wbm (i := 35) (by decide +kernel) rfl
theorem wb_192 : Cond.fieldLink R_M 82 R_M "letter" "I" ∈ WB := wbm (i := 889) (by decide +kernel) rfl
def f_M_thrown (mth : Int32) : Option (Int32) := some (mth)
set_option maxHeartbeats 4000000 in
set_option maxRecDepth 100000 in
theorem c_M_thrown (l : Launch) (dC : Nat → ClassId) (dI : Nat → Nat → Nat) (bM bLi bLe bNa bNs bSt bCo bKi bBe bEn bWo bSi bPl bMi bVa : Nat) (sz : Nat) (mth : Int32) (mle : Int32) (mnm : Int32) (msp : Int32) (mpl : Int32) (mto : Int32) (mlr : Int32) (mma : Int32) (mod : Int32) (mfa : Int32) (mlp : Int32) (mlm : Int32) (mlv : Int64) (o : Int32) (hf : f_M_thrown mth = some o) : Met l y_M_thrown (w_M_thrown) ({ frames := 0, cells := 0, slots := 0, locals := 0 }) (va_Pc [.ref bM] (fun U => U.heap.size = sz ∧ va_P (dC, dI) vwCl [(bM, .inr (7, [.int mth, .ref bLi, .int mle, .ref bLe, .ref bNa, .ref bNs, .ref bSt, .ref bCo, .int mnm, .int msp, .int mpl, .ref bKi, .ref bBe, .ref bEn, .ref bWo, .int mto, .int mlr, .ref bSi, .ref bPl, .ref bMi, .ref bVa, .int mma, .int mod, .int mfa, .int mlp, .int mlm, .long mlv]))] U.heap ∧ va_K (dC, dI) vwCl [] U ∧ va_D (fun _ => True) [(bM, .inr (7, [.int mth, .ref bLi, .int mle, .ref bLe, .ref bNa, .ref bNs, .ref bSt, .ref bCo, .int mnm, .int msp, .int mpl, .ref bKi, .ref bBe, .ref bEn, .ref bWo, .int mto, .int mlr, .ref bSi, .ref bPl, .ref bMi, .ref bVa, .int mma, .int mod, .int mfa, .int mlp, .int mlm, .long mlv]))] ∧ NW U)) (va_Qi (fun (r : Int32) (_ : Unit) => r = o) (fun _ t => va_P (dC, dI) vwCl [(bM, .inr (7, [.int mth, .ref bLi, .int mle, .ref bLe, .ref bNa, .ref bNs, .ref bSt, .ref bCo, .int mnm, .int msp, .int mpl, .ref bKi, .ref bBe, .ref bEn, .ref bWo, .int mto, .int mlr, .ref bSi, .ref bPl, .ref bMi, .ref bVa, .int mma, .int mod, .int mfa, .int mlp, .int mlm, .long mlv]))] t.heap ∧ va_K (dC, dI) vwCl [] t ∧ va_D (va_A [(bM, .inr (7, [.int mth, .ref bLi, .int mle, .ref bLe, .ref bNa, .ref bNs, .ref bSt, .ref bCo, .int mnm, .int msp, .int mpl, .ref bKi, .ref bBe, .ref bEn, .ref bWo, .int mto, .int mlr, .ref bSi, .ref bPl, .ref bMi, .ref bVa, .int mma, .int mod, .int mfa, .int mlp, .int mlm, .long mlv]))] sz) [(bM, .inr (7, [.int mth, .ref bLi, .int mle, .ref bLe, .ref bNa, .ref bNs, .ref bSt, .ref bCo, .int mnm, .int msp, .int mpl, .ref bKi, .ref bBe, .ref bEn, .ref bWo, .int mto, .int mlr, .ref bSi, .ref bPl, .ref bMi, .ref bVa, .int mma, .int mod, .int mfa, .int mlp, .int mlm, .long mlv]))]) (va_A [(bM, .inr (7, [.int mth, .ref bLi, .int mle, .ref bLe, .ref bNa, .ref bNs, .ref bSt, .ref bCo, .int mnm, .int msp, .int mpl, .ref bKi, .ref bBe, .ref bEn, .ref bWo, .int mto, .int mlr, .ref bSi, .ref bPl, .ref bMi, .ref bVa, .int mma, .int mod, .int mfa, .int mlp, .int mlm, .long mlv]))] sz)) 0 0 (va_A [(bM, .inr (7, [.int mth, .ref bLi, .int mle, .ref bLe, .ref bNa, .ref bNs, .ref bSt, .ref bCo, .int mnm, .int msp, .int mpl, .ref bKi, .ref bBe, .ref bEn, .ref bWo, .int mto, .int mlr, .ref bSi, .ref bPl, .ref bMi, .ref bVa, .int mma, .int mod, .int mfa, .int mlp, .int mlm, .long mlv]))] sz) := by
  refine Met.ofW (cc := b_M_thrown) (maxL := 1) (ret := (some .int)) (by decide) rfl ?_
  intro p e s m args below meth c s₁ B hml hv
  obtain ⟨rfl, hsz, hP, hK, hD0, hN⟩ := hv
  have hx := B.exec
  have hb := B.bytes
  have hr := B.returns
  have hts : ∀ w ∈ WB, w.before _ s = true := fun w h => atoms_spec (ws := w_M_thrown) B.pre w (List.mem_cons_of_mem _ h)
  have hown : s.vm.findClass R_M = some m.cls := findClass_of_methodNamed B.named
  have hlocks := B.notSynchronized
  subst hsz
  have hD := hD0.self (sz := s.heap.size)
  generalize hAe : va_A [(bM, .inr (7, [.int mth, .ref bLi, .int mle, .ref bLe, .ref bNa, .ref bNs, .ref bSt, .ref bCo, .int mnm, .int msp, .int mpl, .ref bKi, .ref bBe, .ref bEn, .ref bWo, .int mto, .int mlr, .ref bSi, .ref bPl, .ref bMi, .ref bVa, .int mma, .int mod, .int mfa, .int mlp, .int mlm, .long mlv]))] s.heap.size = A at hD ⊢
  have hA : ∀ q : Nat, s.heap.size ≤ q → A q := fun q h => by rw [← hAe]; exact Or.inr h
  have hS : va_S A s.heap s.heap [] := va_S.rf
  have hP : va_P (dC, dI) vwCl [(bM, .inr (7, [.int mth, .ref bLi, .int mle, .ref bLe, .ref bNa, .ref bNs, .ref bSt, .ref bCo, .int mnm, .int msp, .int mpl, .ref bKi, .ref bBe, .ref bEn, .ref bWo, .int mto, .int mlr, .ref bSi, .ref bPl, .ref bMi, .ref bVa, .int mma, .int mod, .int mfa, .int mlp, .int mlm, .long mlv]))] s.heap := hP
  have hl := lv_entry [.ref bM] (n := 1) (Nat.le_of_ble_eq_true rfl)
  rw [lg_entry_eq]
  generalize (lg_sl [.ref bM] ++ List.replicate (1 - (lg_sl [.ref bM]).length) Slot.unset).toArray = ls at hl ⊢
  have hl : lv_has ls 1 [(0, .ref bM)] := hl
  rw [f_M_thrown] at hf
  refine lv_aload_n hx hb d_M_thrown_0 rfl (lv_at hl 0 rfl) ?_
  refine va_get (D := (dC, dI)) (ci := 7) (v := .int mth) (C := R_M) (T := F_M) (N := 27) hx hb hts i_M hown hK hP 0 rfl rfl 0 (by decide) (hts _ wb_172) (fun _ h9 => h9) rfl d_M_thrown_1 ?_
  have ho := Option.some.inj hf
  subst o
  have hP9 := hP.sub (ws' := [(bM, .inr (7, [.int mth, .ref bLi, .int mle, .ref bLe, .ref bNa, .ref bNs, .ref bSt, .ref bCo, .int mnm, .int msp, .int mpl, .ref bKi, .ref bBe, .ref bEn, .ref bWo, .int mto, .int mlr, .ref bSi, .ref bPl, .ref bMi, .ref bVa, .int mma, .int mod, .int mfa, .int mlp, .int mlm, .long mlv]))]) [0] rfl
  have hD9 := hD.sub (ws' := [(bM, .inr (7, [.int mth, .ref bLi, .int mle, .ref bLe, .ref bNa, .ref bNs, .ref bSt, .ref bCo, .int mnm, .int msp, .int mpl, .ref bKi, .ref bBe, .ref bEn, .ref bWo, .int mto, .int mlr, .ref bSi, .ref bPl, .ref bMi, .ref bVa, .int mma, .int mod, .int mfa, .int mlp, .int mlm, .long mlv]))]) [0] (by decide) rfl
  exact W.iret (v := mth) hx hb hr (fun t ht hW => ⟨⟨mth, (), rfl, rfl, by rw [ht]; exact hP9, va_K.moved hW.alike hK, hD9⟩, hS.F ht⟩) hS.2.2 d_M_thrown_4

def f_M_type_l35 : Nat → Int32 → Int32 → (Nat → Int32) → Int64 → Int32 → Option (Int32 × Int32 × Int32 × (Nat → Int32))
  | 0, _, _, _, _, _ => none
  | n + 1, mth, mle, mli, x1, x4 => if x4 < (0 : Int32) then some ((1 : Int32), mth, mle, mli) else gi mle 1024 (f_M_type_l35 n mth (mle + (1 : Int32)) (upd mli mle.toNatClampNeg (((x1 >>> (((8 : Int32) * x4).toInt64 &&& 63)) &&& (255 : Int64)).toInt32)) x1 (x4 + (-1 : Int32)))
def f_M_type (mth : Int32) (mle : Int32) (mli : Nat → Int32) (p0 : Int64) (p1 : Int32) : Option (Int32 × Int32 × Int32 × (Nat → Int32)) := if p1 < (1 : Int32) then some ((0 : Int32), (0 : Int32), mle, mli) else if (8 : Int32) < p1 then some ((0 : Int32), (0 : Int32), mle, mli) else if (mle + p1) ≤ (1024 : Int32) then f_M_type_l35 FU (0 : Int32) mle mli p0 (p1 - (1 : Int32)) else some ((0 : Int32), (0 : Int32), mle, mli)
set_option maxHeartbeats 4000000 in
set_option maxRecDepth 100000 in
theorem c_M_type (l : Launch) (dC : Nat → ClassId) (dI : Nat → Nat → Nat) (bM bLi bLe bNa bNs bSt bCo bKi bBe bEn bWo bSi bPl bMi bVa : Nat) (cLim : ClassId) (sz : Nat) (mth : Int32) (mle : Int32) (mnm : Int32) (msp : Int32) (mpl : Int32) (mto : Int32) (mlr : Int32) (mma : Int32) (mod : Int32) (mfa : Int32) (mlp : Int32) (mlm : Int32) (mlv : Int64) (mli : Nat → Int32) (p0 : Int64) (p1 : Int32) (o : Int32 × Int32 × Int32 × (Nat → Int32)) (hf : f_M_type mth mle mli p0 p1 = some o) : Met l y_M_type (w_M_type) ({ frames := 0, cells := 0, slots := 0, locals := 0 }) (va_Pc [.ref bM, .long p0, .int p1] (fun U => U.heap.size = sz ∧ va_P (dC, dI) vwCl [(bM, .inr (7, [.int mth, .ref bLi, .int mle, .ref bLe, .ref bNa, .ref bNs, .ref bSt, .ref bCo, .int mnm, .int msp, .int mpl, .ref bKi, .ref bBe, .ref bEn, .ref bWo, .int mto, .int mlr, .ref bSi, .ref bPl, .ref bMi, .ref bVa, .int mma, .int mod, .int mfa, .int mlp, .int mlm, .long mlv])), (bLi, .inl (cLim, 1024, .inl mli))] U.heap ∧ va_K (dC, dI) vwCl [(cLim, .int)] U ∧ va_D (fun _ => True) [(bM, .inr (7, [.int mth, .ref bLi, .int mle, .ref bLe, .ref bNa, .ref bNs, .ref bSt, .ref bCo, .int mnm, .int msp, .int mpl, .ref bKi, .ref bBe, .ref bEn, .ref bWo, .int mto, .int mlr, .ref bSi, .ref bPl, .ref bMi, .ref bVa, .int mma, .int mod, .int mfa, .int mlp, .int mlm, .long mlv])), (bLi, .inl (cLim, 1024, .inl mli))] ∧ NW U)) (va_Qi (fun (r : Int32) (_ : Unit) => r = o.1 ∧ narrow .boolean (.int r) = .int r) (fun _ t => va_P (dC, dI) vwCl [(bM, .inr (7, [.int o.2.1, .ref bLi, .int o.2.2.1, .ref bLe, .ref bNa, .ref bNs, .ref bSt, .ref bCo, .int mnm, .int msp, .int mpl, .ref bKi, .ref bBe, .ref bEn, .ref bWo, .int mto, .int mlr, .ref bSi, .ref bPl, .ref bMi, .ref bVa, .int mma, .int mod, .int mfa, .int mlp, .int mlm, .long mlv])), (bLi, .inl (cLim, 1024, .inl o.2.2.2))] t.heap ∧ va_K (dC, dI) vwCl [(cLim, .int)] t ∧ va_D (va_A [(bM, .inr (7, [.int mth, .ref bLi, .int mle, .ref bLe, .ref bNa, .ref bNs, .ref bSt, .ref bCo, .int mnm, .int msp, .int mpl, .ref bKi, .ref bBe, .ref bEn, .ref bWo, .int mto, .int mlr, .ref bSi, .ref bPl, .ref bMi, .ref bVa, .int mma, .int mod, .int mfa, .int mlp, .int mlm, .long mlv])), (bLi, .inl (cLim, 1024, .inl mli))] sz) [(bM, .inr (7, [.int o.2.1, .ref bLi, .int o.2.2.1, .ref bLe, .ref bNa, .ref bNs, .ref bSt, .ref bCo, .int mnm, .int msp, .int mpl, .ref bKi, .ref bBe, .ref bEn, .ref bWo, .int mto, .int mlr, .ref bSi, .ref bPl, .ref bMi, .ref bVa, .int mma, .int mod, .int mfa, .int mlp, .int mlm, .long mlv])), (bLi, .inl (cLim, 1024, .inl o.2.2.2))]) (va_A [(bM, .inr (7, [.int mth, .ref bLi, .int mle, .ref bLe, .ref bNa, .ref bNs, .ref bSt, .ref bCo, .int mnm, .int msp, .int mpl, .ref bKi, .ref bBe, .ref bEn, .ref bWo, .int mto, .int mlr, .ref bSi, .ref bPl, .ref bMi, .ref bVa, .int mma, .int mod, .int mfa, .int mlp, .int mlm, .long mlv])), (bLi, .inl (cLim, 1024, .inl mli))] sz)) 0 0 (va_A [(bM, .inr (7, [.int mth, .ref bLi, .int mle, .ref bLe, .ref bNa, .ref bNs, .ref bSt, .ref bCo, .int mnm, .int msp, .int mpl, .ref bKi, .ref bBe, .ref bEn, .ref bWo, .int mto, .int mlr, .ref bSi, .ref bPl, .ref bMi, .ref bVa, .int mma, .int mod, .int mfa, .int mlp, .int mlm, .long mlv])), (bLi, .inl (cLim, 1024, .inl mli))] sz) := by
  refine Met.ofW (cc := b_M_type) (maxL := 5) (ret := (some .boolean)) (by decide) rfl ?_
  intro p e s m args below meth c s₁ B hml hv
  obtain ⟨rfl, hsz, hP, hK, hD0, hN⟩ := hv
  have hx := B.exec
  have hb := B.bytes
  have hr := B.returns
  have hts : ∀ w ∈ WB, w.before _ s = true := fun w h => atoms_spec (ws := w_M_type) B.pre w (List.mem_cons_of_mem _ h)
  have hown : s.vm.findClass R_M = some m.cls := findClass_of_methodNamed B.named
  have hlocks := B.notSynchronized
  subst hsz
  have hD := hD0.self (sz := s.heap.size)
  generalize hAe : va_A [(bM, .inr (7, [.int mth, .ref bLi, .int mle, .ref bLe, .ref bNa, .ref bNs, .ref bSt, .ref bCo, .int mnm, .int msp, .int mpl, .ref bKi, .ref bBe, .ref bEn, .ref bWo, .int mto, .int mlr, .ref bSi, .ref bPl, .ref bMi, .ref bVa, .int mma, .int mod, .int mfa, .int mlp, .int mlm, .long mlv])), (bLi, .inl (cLim, 1024, .inl mli))] s.heap.size = A at hD ⊢
  have hA : ∀ q : Nat, s.heap.size ≤ q → A q := fun q h => by rw [← hAe]; exact Or.inr h
  have hS : va_S A s.heap s.heap [] := va_S.rf
  have hP : va_P (dC, dI) vwCl [(bM, .inr (7, [.int mth, .ref bLi, .int mle, .ref bLe, .ref bNa, .ref bNs, .ref bSt, .ref bCo, .int mnm, .int msp, .int mpl, .ref bKi, .ref bBe, .ref bEn, .ref bWo, .int mto, .int mlr, .ref bSi, .ref bPl, .ref bMi, .ref bVa, .int mma, .int mod, .int mfa, .int mlp, .int mlm, .long mlv])), (bLi, .inl (cLim, 1024, .inl mli))] s.heap := hP
  have hl := lv_entry [.ref bM, .long p0, .int p1] (n := 5) (Nat.le_of_ble_eq_true rfl)
  rw [lg_entry_eq]
  generalize (lg_sl [.ref bM, .long p0, .int p1] ++ List.replicate (5 - (lg_sl [.ref bM, .long p0, .int p1]).length) Slot.unset).toArray = ls at hl ⊢
  have hl : lv_has ls 5 [(0, .ref bM), (1, .long p0), (3, .int p1)] := hl
  have loop_35 : ∀ (n : Nat) (mth : Int32) (mle : Int32) (mli : Nat → Int32) (x1 : Int64) (x4 : Int32) (H : Heap) (locs : List Loc) (ls : Array Slot), f_M_type_l35 n mth mle mli x1 x4 = some o → va_P (dC, dI) vwCl [(bM, .inr (7, [.int mth, .ref bLi, .int mle, .ref bLe, .ref bNa, .ref bNs, .ref bSt, .ref bCo, .int mnm, .int msp, .int mpl, .ref bKi, .ref bBe, .ref bEn, .ref bWo, .int mto, .int mlr, .ref bSi, .ref bPl, .ref bMi, .ref bVa, .int mma, .int mod, .int mfa, .int mlp, .int mlm, .long mlv])), (bLi, .inl (cLim, 1024, .inl mli))] H → va_D A [(bM, .inr (7, [.int mth, .ref bLi, .int mle, .ref bLe, .ref bNa, .ref bNs, .ref bSt, .ref bCo, .int mnm, .int msp, .int mpl, .ref bKi, .ref bBe, .ref bEn, .ref bWo, .int mto, .int mlr, .ref bSi, .ref bPl, .ref bMi, .ref bVa, .int mma, .int mod, .int mfa, .int mlp, .int mlm, .long mlv])), (bLi, .inl (cLim, 1024, .inl mli))] → va_S A s.heap H locs → lv_has ls 5 [(0, .ref bM), (1, .long x1), (4, .int x4)] → W p l e (headSpec (w_M_type) ({ frames := 0, cells := 0, slots := 0, locals := 0 })).room s m [.ref bM, .long p0, .int p1].toArray below meth c H locs 0 0 (MQ below (va_Qi (fun (r : Int32) (_ : Unit) => r = o.1 ∧ narrow .boolean (.int r) = .int r) (fun _ t => va_P (dC, dI) vwCl [(bM, .inr (7, [.int o.2.1, .ref bLi, .int o.2.2.1, .ref bLe, .ref bNa, .ref bNs, .ref bSt, .ref bCo, .int mnm, .int msp, .int mpl, .ref bKi, .ref bBe, .ref bEn, .ref bWo, .int mto, .int mlr, .ref bSi, .ref bPl, .ref bMi, .ref bVa, .int mma, .int mod, .int mfa, .int mlp, .int mlm, .long mlv])), (bLi, .inl (cLim, 1024, .inl o.2.2.2))] t.heap ∧ va_K (dC, dI) vwCl [(cLim, .int)] t ∧ va_D A [(bM, .inr (7, [.int o.2.1, .ref bLi, .int o.2.2.1, .ref bLe, .ref bNa, .ref bNs, .ref bSt, .ref bCo, .int mnm, .int msp, .int mpl, .ref bKi, .ref bBe, .ref bEn, .ref bWo, .int mto, .int mlr, .ref bSi, .ref bPl, .ref bMi, .ref bVa, .int mma, .int mod, .int mfa, .int mlp, .int mlm, .long mlv])), (bLi, .inl (cLim, 1024, .inl o.2.2.2))]) A) [.ref bM, .long p0, .int p1].toArray s 0 0 A) (F0 m 35 ls []) := by
    intro n
    induction n with
    | zero => intro mth mle mli x1 x4 H locs ls hf; exact absurd hf (by simp [f_M_type_l35])
    | succ n ih =>
      intro mth mle mli x1 x4 H locs ls hf hP hD hS hl
      rw [f_M_type_l35] at hf
      refine lv_iload hx hb d_M_type_35 (lv_at hl 2 rfl) ?_
      refine lv_if_lt (tgt := 77) hx hb d_M_type_37 (by decide) (fun c_4 => ?_) (fun c_4 => ?_)
      · rw [if_pos c_4] at hf
        refine lv_iconst (v := (1 : Int32)) hx hb d_M_type_77 (by decide) ?_
        have ho := Option.some.inj hf
        subst o
        have hP9 := hP.sub (ws' := [(bM, .inr (7, [.int mth, .ref bLi, .int mle, .ref bLe, .ref bNa, .ref bNs, .ref bSt, .ref bCo, .int mnm, .int msp, .int mpl, .ref bKi, .ref bBe, .ref bEn, .ref bWo, .int mto, .int mlr, .ref bSi, .ref bPl, .ref bMi, .ref bVa, .int mma, .int mod, .int mfa, .int mlp, .int mlm, .long mlv])), (bLi, .inl (cLim, 1024, .inl mli))]) [0, 1] rfl
        have hD9 := hD.sub (ws' := [(bM, .inr (7, [.int mth, .ref bLi, .int mle, .ref bLe, .ref bNa, .ref bNs, .ref bSt, .ref bCo, .int mnm, .int msp, .int mpl, .ref bKi, .ref bBe, .ref bEn, .ref bWo, .int mto, .int mlr, .ref bSi, .ref bPl, .ref bMi, .ref bVa, .int mma, .int mod, .int mfa, .int mlp, .int mlm, .long mlv])), (bLi, .inl (cLim, 1024, .inl mli))]) [0, 1] (by decide) rfl
        exact W.zret (v := (1 : Int32)) (ty := .boolean) hx hb hr rfl (fun t ht hW => ⟨⟨(1 : Int32), (), rfl, ⟨rfl, rfl⟩, by rw [ht]; exact hP9, va_K.moved hW.alike hK, hD9⟩, hS.F ht⟩) hS.2.2 d_M_type_78
      · rw [if_neg c_4] at hf
        refine lv_aload_n hx hb d_M_type_40 rfl (lv_at hl 0 rfl) ?_
        refine va_get (D := (dC, dI)) (ci := 7) (v := .ref bLi) (C := R_M) (T := F_M) (N := 27) hx hb hts i_M hown hK hP 0 rfl rfl 1 (by decide) (hts _ wb_174) (fun _ h9 => h9) rfl d_M_type_41 ?_
        refine lv_aload_n hx hb d_M_type_44 rfl (lv_at hl 0 rfl) ?_
        refine va_get (D := (dC, dI)) (ci := 7) (v := .int mle) (C := R_M) (T := F_M) (N := 27) hx hb hts i_M hown hK hP 0 rfl rfl 2 (by decide) (hts _ wb_173) (fun _ h9 => h9) rfl d_M_type_45 ?_
        refine lv_lload_n hx hb d_M_type_48 rfl (lv_at hl 1 rfl) ?_
        refine lv_bipush (v := (8 : Int32)) hx hb d_M_type_49 (by decide) ?_
        refine lv_iload hx hb d_M_type_51 (lv_at hl 2 rfl) ?_
        refine lv_imul hx hb d_M_type_53 ?_
        refine lv_lshr (v := x1 >>> (((8 : Int32) * x4).toInt64 &&& 63)) hx hb d_M_type_54 rfl ?_
        refine lv_ldc2 (v := (255 : Int64)) hx hb hown (hts _ wb_175) d_M_type_55 ?_
        refine lv_land hx hb d_M_type_58 ?_
        refine lv_l2i (v := ((x1 >>> (((8 : Int32) * x4).toInt64 &&& 63)) &&& (255 : Int64)).toInt32) hx hb d_M_type_59 rfl ?_
        obtain ⟨hin, hf⟩ := gi_some hf
        refine va_iast hx hb hK hP hD hS 1 0 rfl rfl hin d_M_type_60 (fun H locs hP hD hS => ?_)
        have hP : va_P (dC, dI) vwCl [(bM, .inr (7, [.int mth, .ref bLi, .int mle, .ref bLe, .ref bNa, .ref bNs, .ref bSt, .ref bCo, .int mnm, .int msp, .int mpl, .ref bKi, .ref bBe, .ref bEn, .ref bWo, .int mto, .int mlr, .ref bSi, .ref bPl, .ref bMi, .ref bVa, .int mma, .int mod, .int mfa, .int mlp, .int mlm, .long mlv])), (bLi, .inl (cLim, 1024, .inl (upd mli mle.toNatClampNeg (((x1 >>> (((8 : Int32) * x4).toInt64 &&& 63)) &&& (255 : Int64)).toInt32))))] H := hP
        have hD : va_D A [(bM, .inr (7, [.int mth, .ref bLi, .int mle, .ref bLe, .ref bNa, .ref bNs, .ref bSt, .ref bCo, .int mnm, .int msp, .int mpl, .ref bKi, .ref bBe, .ref bEn, .ref bWo, .int mto, .int mlr, .ref bSi, .ref bPl, .ref bMi, .ref bVa, .int mma, .int mod, .int mfa, .int mlp, .int mlm, .long mlv])), (bLi, .inl (cLim, 1024, .inl (upd mli mle.toNatClampNeg (((x1 >>> (((8 : Int32) * x4).toInt64 &&& 63)) &&& (255 : Int64)).toInt32))))] := hD
        refine lv_aload_n hx hb d_M_type_61 rfl (lv_at hl 0 rfl) ?_
        refine lv_dup hx hb d_M_type_62 rfl ?_
        refine va_get (D := (dC, dI)) (ci := 7) (v := .int mle) (C := R_M) (T := F_M) (N := 27) hx hb hts i_M hown hK hP 0 rfl rfl 2 (by decide) (hts _ wb_173) (fun _ h9 => h9) rfl d_M_type_63 ?_
        refine lv_iconst (v := (1 : Int32)) hx hb d_M_type_66 (by decide) ?_
        refine lv_iadd hx hb d_M_type_67 ?_
        refine va_put (D := (dC, dI)) (ci := 7) (v := .int (mle + (1 : Int32))) (ty := .int) (C := R_M) (T := F_M) (N := 27) hx hb hts i_M ft_M tk_M n_M hown hK hP hD hS 0 rfl rfl 2 (by decide) (hts _ wb_173) (fun _ h9 => h9) rfl (by decide +kernel) rfl rfl (Nat.le_of_ble_eq_true rfl) d_M_type_68 (fun H locs hP hD hS => ?_)
        have hP : va_P (dC, dI) vwCl [(bM, .inr (7, [.int mth, .ref bLi, .int (mle + (1 : Int32)), .ref bLe, .ref bNa, .ref bNs, .ref bSt, .ref bCo, .int mnm, .int msp, .int mpl, .ref bKi, .ref bBe, .ref bEn, .ref bWo, .int mto, .int mlr, .ref bSi, .ref bPl, .ref bMi, .ref bVa, .int mma, .int mod, .int mfa, .int mlp, .int mlm, .long mlv])), (bLi, .inl (cLim, 1024, .inl (upd mli mle.toNatClampNeg (((x1 >>> (((8 : Int32) * x4).toInt64 &&& 63)) &&& (255 : Int64)).toInt32))))] H := hP
        have hD : va_D A [(bM, .inr (7, [.int mth, .ref bLi, .int (mle + (1 : Int32)), .ref bLe, .ref bNa, .ref bNs, .ref bSt, .ref bCo, .int mnm, .int msp, .int mpl, .ref bKi, .ref bBe, .ref bEn, .ref bWo, .int mto, .int mlr, .ref bSi, .ref bPl, .ref bMi, .ref bVa, .int mma, .int mod, .int mfa, .int mlp, .int mlm, .long mlv])), (bLi, .inl (cLim, 1024, .inl (upd mli mle.toNatClampNeg (((x1 >>> (((8 : Int32) * x4).toInt64 &&& 63)) &&& (255 : Int64)).toInt32))))] := hD
        refine lv_iinc (v := x4 + (-1 : Int32)) (lv' := [(4, .int (x4 + (-1 : Int32))), (0, .ref bM), (1, .long x1)]) hx hb d_M_type_71 hl (k := 2) rfl rfl (by decide) rfl (fun ls hl => ?_)
        refine lv_goto (tgt := 35) hx hb d_M_type_74 (by decide) ?_
        exact ih mth (mle + (1 : Int32)) (upd mli mle.toNatClampNeg (((x1 >>> (((8 : Int32) * x4).toInt64 &&& 63)) &&& (255 : Int64)).toInt32)) x1 (x4 + (-1 : Int32)) H locs ls hf (hP.sub (ws' := [(bM, .inr (7, [.int mth, .ref bLi, .int (mle + (1 : Int32)), .ref bLe, .ref bNa, .ref bNs, .ref bSt, .ref bCo, .int mnm, .int msp, .int mpl, .ref bKi, .ref bBe, .ref bEn, .ref bWo, .int mto, .int mlr, .ref bSi, .ref bPl, .ref bMi, .ref bVa, .int mma, .int mod, .int mfa, .int mlp, .int mlm, .long mlv])), (bLi, .inl (cLim, 1024, .inl (upd mli mle.toNatClampNeg (((x1 >>> (((8 : Int32) * x4).toInt64 &&& 63)) &&& (255 : Int64)).toInt32))))]) [0, 1] rfl) (hD.sub (ws' := [(bM, .inr (7, [.int mth, .ref bLi, .int (mle + (1 : Int32)), .ref bLe, .ref bNa, .ref bNs, .ref bSt, .ref bCo, .int mnm, .int msp, .int mpl, .ref bKi, .ref bBe, .ref bEn, .ref bWo, .int mto, .int mlr, .ref bSi, .ref bPl, .ref bMi, .ref bVa, .int mma, .int mod, .int mfa, .int mlp, .int mlm, .long mlv])), (bLi, .inl (cLim, 1024, .inl (upd mli mle.toNatClampNeg (((x1 >>> (((8 : Int32) * x4).toInt64 &&& 63)) &&& (255 : Int64)).toInt32))))]) [0, 1] (by decide) rfl) hS (lv_sub hl [1, 2, 0] rfl)
  rw [f_M_type] at hf
  refine lv_aload_n hx hb d_M_type_0 rfl (lv_at hl 0 rfl) ?_
  refine lv_iconst (v := (0 : Int32)) hx hb d_M_type_1 (by decide) ?_
  refine va_put (D := (dC, dI)) (ci := 7) (v := .int (0 : Int32)) (ty := .int) (C := R_M) (T := F_M) (N := 27) hx hb hts i_M ft_M tk_M n_M hown hK hP hD hS 0 rfl rfl 0 (by decide) (hts _ wb_172) (fun _ h9 => h9) rfl (by decide +kernel) rfl rfl (Nat.le_of_ble_eq_true rfl) d_M_type_2 (fun H locs hP hD hS => ?_)
  have hP : va_P (dC, dI) vwCl [(bM, .inr (7, [.int (0 : Int32), .ref bLi, .int mle, .ref bLe, .ref bNa, .ref bNs, .ref bSt, .ref bCo, .int mnm, .int msp, .int mpl, .ref bKi, .ref bBe, .ref bEn, .ref bWo, .int mto, .int mlr, .ref bSi, .ref bPl, .ref bMi, .ref bVa, .int mma, .int mod, .int mfa, .int mlp, .int mlm, .long mlv])), (bLi, .inl (cLim, 1024, .inl mli))] H := hP
  have hD : va_D A [(bM, .inr (7, [.int (0 : Int32), .ref bLi, .int mle, .ref bLe, .ref bNa, .ref bNs, .ref bSt, .ref bCo, .int mnm, .int msp, .int mpl, .ref bKi, .ref bBe, .ref bEn, .ref bWo, .int mto, .int mlr, .ref bSi, .ref bPl, .ref bMi, .ref bVa, .int mma, .int mod, .int mfa, .int mlp, .int mlm, .long mlv])), (bLi, .inl (cLim, 1024, .inl mli))] := hD
  refine lv_iload_n hx hb d_M_type_5 rfl (lv_at hl 2 rfl) ?_
  refine lv_iconst (v := (1 : Int32)) hx hb d_M_type_6 (by decide) ?_
  refine lv_icmp_lt (tgt := 28) hx hb d_M_type_7 (by decide) (fun c_1 => ?_) (fun c_1 => ?_)
  · rw [if_pos c_1] at hf
    refine lv_iconst (v := (0 : Int32)) hx hb d_M_type_28 (by decide) ?_
    have ho := Option.some.inj hf
    subst o
    have hP9 := hP.sub (ws' := [(bM, .inr (7, [.int (0 : Int32), .ref bLi, .int mle, .ref bLe, .ref bNa, .ref bNs, .ref bSt, .ref bCo, .int mnm, .int msp, .int mpl, .ref bKi, .ref bBe, .ref bEn, .ref bWo, .int mto, .int mlr, .ref bSi, .ref bPl, .ref bMi, .ref bVa, .int mma, .int mod, .int mfa, .int mlp, .int mlm, .long mlv])), (bLi, .inl (cLim, 1024, .inl mli))]) [0, 1] rfl
    have hD9 := hD.sub (ws' := [(bM, .inr (7, [.int (0 : Int32), .ref bLi, .int mle, .ref bLe, .ref bNa, .ref bNs, .ref bSt, .ref bCo, .int mnm, .int msp, .int mpl, .ref bKi, .ref bBe, .ref bEn, .ref bWo, .int mto, .int mlr, .ref bSi, .ref bPl, .ref bMi, .ref bVa, .int mma, .int mod, .int mfa, .int mlp, .int mlm, .long mlv])), (bLi, .inl (cLim, 1024, .inl mli))]) [0, 1] (by decide) rfl
    exact W.zret (v := (0 : Int32)) (ty := .boolean) hx hb hr rfl (fun t ht hW => ⟨⟨(0 : Int32), (), rfl, ⟨rfl, rfl⟩, by rw [ht]; exact hP9, va_K.moved hW.alike hK, hD9⟩, hS.F ht⟩) hS.2.2 d_M_type_29
  · rw [if_neg c_1] at hf
    refine lv_iload_n hx hb d_M_type_10 rfl (lv_at hl 2 rfl) ?_
    refine lv_bipush (v := (8 : Int32)) hx hb d_M_type_11 (by decide) ?_
    refine lv_icmp_gt (tgt := 28) hx hb d_M_type_13 (by decide) (fun c_2 => ?_) (fun c_2 => ?_)
    · rw [if_pos c_2] at hf
      refine lv_iconst (v := (0 : Int32)) hx hb d_M_type_28 (by decide) ?_
      have ho := Option.some.inj hf
      subst o
      have hP9 := hP.sub (ws' := [(bM, .inr (7, [.int (0 : Int32), .ref bLi, .int mle, .ref bLe, .ref bNa, .ref bNs, .ref bSt, .ref bCo, .int mnm, .int msp, .int mpl, .ref bKi, .ref bBe, .ref bEn, .ref bWo, .int mto, .int mlr, .ref bSi, .ref bPl, .ref bMi, .ref bVa, .int mma, .int mod, .int mfa, .int mlp, .int mlm, .long mlv])), (bLi, .inl (cLim, 1024, .inl mli))]) [0, 1] rfl
      have hD9 := hD.sub (ws' := [(bM, .inr (7, [.int (0 : Int32), .ref bLi, .int mle, .ref bLe, .ref bNa, .ref bNs, .ref bSt, .ref bCo, .int mnm, .int msp, .int mpl, .ref bKi, .ref bBe, .ref bEn, .ref bWo, .int mto, .int mlr, .ref bSi, .ref bPl, .ref bMi, .ref bVa, .int mma, .int mod, .int mfa, .int mlp, .int mlm, .long mlv])), (bLi, .inl (cLim, 1024, .inl mli))]) [0, 1] (by decide) rfl
      exact W.zret (v := (0 : Int32)) (ty := .boolean) hx hb hr rfl (fun t ht hW => ⟨⟨(0 : Int32), (), rfl, ⟨rfl, rfl⟩, by rw [ht]; exact hP9, va_K.moved hW.alike hK, hD9⟩, hS.F ht⟩) hS.2.2 d_M_type_29
    · rw [if_neg c_2] at hf
      refine lv_aload_n hx hb d_M_type_16 rfl (lv_at hl 0 rfl) ?_
      refine va_get (D := (dC, dI)) (ci := 7) (v := .int mle) (C := R_M) (T := F_M) (N := 27) hx hb hts i_M hown hK hP 0 rfl rfl 2 (by decide) (hts _ wb_173) (fun _ h9 => h9) rfl d_M_type_17 ?_
      refine lv_iload_n hx hb d_M_type_20 rfl (lv_at hl 2 rfl) ?_
      refine lv_iadd hx hb d_M_type_21 ?_
      refine lv_sipush (v := (1024 : Int32)) hx hb d_M_type_22 (by decide) ?_
      refine lv_icmp_le (tgt := 30) hx hb d_M_type_25 (by decide) (fun c_3 => ?_) (fun c_3 => ?_)
      · rw [if_pos c_3] at hf
        refine lv_iload_n hx hb d_M_type_30 rfl (lv_at hl 2 rfl) ?_
        refine lv_iconst (v := (1 : Int32)) hx hb d_M_type_31 (by decide) ?_
        refine lv_isub hx hb d_M_type_32 ?_
        refine lv_istore (lv' := [(4, .int (p1 - (1 : Int32))), (0, .ref bM), (1, .long p0), (3, .int p1)]) hx hb d_M_type_33 hl (by decide) rfl (fun ls hl => ?_)
        exact loop_35 FU (0 : Int32) mle mli p0 (p1 - (1 : Int32)) H locs ls hf (hP.sub (ws' := [(bM, .inr (7, [.int (0 : Int32), .ref bLi, .int mle, .ref bLe, .ref bNa, .ref bNs, .ref bSt, .ref bCo, .int mnm, .int msp, .int mpl, .ref bKi, .ref bBe, .ref bEn, .ref bWo, .int mto, .int mlr, .ref bSi, .ref bPl, .ref bMi, .ref bVa, .int mma, .int mod, .int mfa, .int mlp, .int mlm, .long mlv])), (bLi, .inl (cLim, 1024, .inl mli))]) [0, 1] rfl) (hD.sub (ws' := [(bM, .inr (7, [.int (0 : Int32), .ref bLi, .int mle, .ref bLe, .ref bNa, .ref bNs, .ref bSt, .ref bCo, .int mnm, .int msp, .int mpl, .ref bKi, .ref bBe, .ref bEn, .ref bWo, .int mto, .int mlr, .ref bSi, .ref bPl, .ref bMi, .ref bVa, .int mma, .int mod, .int mfa, .int mlp, .int mlm, .long mlv])), (bLi, .inl (cLim, 1024, .inl mli))]) [0, 1] (by decide) rfl) hS (lv_sub hl [1, 2, 0] rfl)
      · rw [if_neg c_3] at hf
        refine lv_iconst (v := (0 : Int32)) hx hb d_M_type_28 (by decide) ?_
        have ho := Option.some.inj hf
        subst o
        have hP9 := hP.sub (ws' := [(bM, .inr (7, [.int (0 : Int32), .ref bLi, .int mle, .ref bLe, .ref bNa, .ref bNs, .ref bSt, .ref bCo, .int mnm, .int msp, .int mpl, .ref bKi, .ref bBe, .ref bEn, .ref bWo, .int mto, .int mlr, .ref bSi, .ref bPl, .ref bMi, .ref bVa, .int mma, .int mod, .int mfa, .int mlp, .int mlm, .long mlv])), (bLi, .inl (cLim, 1024, .inl mli))]) [0, 1] rfl
        have hD9 := hD.sub (ws' := [(bM, .inr (7, [.int (0 : Int32), .ref bLi, .int mle, .ref bLe, .ref bNa, .ref bNs, .ref bSt, .ref bCo, .int mnm, .int msp, .int mpl, .ref bKi, .ref bBe, .ref bEn, .ref bWo, .int mto, .int mlr, .ref bSi, .ref bPl, .ref bMi, .ref bVa, .int mma, .int mod, .int mfa, .int mlp, .int mlm, .long mlv])), (bLi, .inl (cLim, 1024, .inl mli))]) [0, 1] (by decide) rfl
        exact W.zret (v := (0 : Int32)) (ty := .boolean) hx hb hr rfl (fun t ht hW => ⟨⟨(0 : Int32), (), rfl, ⟨rfl, rfl⟩, by rw [ht]; exact hP9, va_K.moved hW.alike hK, hD9⟩, hS.F ht⟩) hS.2.2 d_M_type_29

def f_M_isLetter_j24 (x0 : Int32) : Option (Int32) := if x0 = (95 : Int32) then some ((1 : Int32)) else if x0 = (46 : Int32) then some ((1 : Int32)) else some ((0 : Int32))
def f_M_isLetter_j12 (x0 : Int32) : Option (Int32) := if x0 < (65 : Int32) then f_M_isLetter_j24 x0 else if x0 ≤ (90 : Int32) then some ((1 : Int32)) else f_M_isLetter_j24 x0
def f_M_isLetter (p0 : Int32) : Option (Int32) := if p0 < (97 : Int32) then f_M_isLetter_j12 p0 else if p0 ≤ (122 : Int32) then some ((1 : Int32)) else f_M_isLetter_j12 p0
set_option maxHeartbeats 4000000 in
set_option maxRecDepth 100000 in
theorem c_M_isLetter (l : Launch) (dC : Nat → ClassId) (dI : Nat → Nat → Nat) (sz : Nat) (p0 : Int32) (o : Int32) (hf : f_M_isLetter p0 = some o) : Met l y_M_isLetter (w_M_isLetter) ({ frames := 0, cells := 0, slots := 0, locals := 0 }) (va_Pc [.int p0] (fun U => U.heap.size = sz ∧ va_P (dC, dI) vwCl [] U.heap ∧ va_K (dC, dI) vwCl [] U ∧ va_D (fun _ => True) [] ∧ NW U)) (va_Qi (fun (r : Int32) (_ : Unit) => r = o ∧ narrow .boolean (.int r) = .int r) (fun _ t => va_P (dC, dI) vwCl [] t.heap ∧ va_K (dC, dI) vwCl [] t ∧ va_D (va_A [] sz) []) (va_A [] sz)) 0 0 (va_A [] sz) := by
  refine Met.ofW (cc := b_M_isLetter) (maxL := 1) (ret := (some .boolean)) (by decide) rfl ?_
  intro p e s m args below meth c s₁ B hml hv
  obtain ⟨rfl, hsz, hP, hK, hD0, hN⟩ := hv
  have hx := B.exec
  have hb := B.bytes
  have hr := B.returns
  have hts : ∀ w ∈ WB, w.before _ s = true := fun w h => atoms_spec (ws := w_M_isLetter) B.pre w (List.mem_cons_of_mem _ h)
  have hown : s.vm.findClass R_M = some m.cls := findClass_of_methodNamed B.named
  have hlocks := B.notSynchronized
  subst hsz
  have hD := hD0.self (sz := s.heap.size)
  generalize hAe : va_A [] s.heap.size = A at hD ⊢
  have hA : ∀ q : Nat, s.heap.size ≤ q → A q := fun q h => by rw [← hAe]; exact Or.inr h
  have hS : va_S A s.heap s.heap [] := va_S.rf
  have hP : va_P (dC, dI) vwCl [] s.heap := hP
  have hl := lv_entry [.int p0] (n := 1) (Nat.le_of_ble_eq_true rfl)
  rw [lg_entry_eq]
  generalize (lg_sl [.int p0] ++ List.replicate (1 - (lg_sl [.int p0]).length) Slot.unset).toArray = ls at hl ⊢
  have hl : lv_has ls 1 [(0, .int p0)] := hl
  have join_24 : ∀ (x0 : Int32) (H : Heap) (locs : List Loc) (ls : Array Slot), f_M_isLetter_j24 x0 = some o → va_P (dC, dI) vwCl [] H → va_D A [] → va_S A s.heap H locs → lv_has ls 1 [(0, .int x0)] → W p l e (headSpec (w_M_isLetter) ({ frames := 0, cells := 0, slots := 0, locals := 0 })).room s m [.int p0].toArray below meth c H locs 0 0 (MQ below (va_Qi (fun (r : Int32) (_ : Unit) => r = o ∧ narrow .boolean (.int r) = .int r) (fun _ t => va_P (dC, dI) vwCl [] t.heap ∧ va_K (dC, dI) vwCl [] t ∧ va_D A []) A) [.int p0].toArray s 0 0 A) (F0 m 24 ls []) := by
    intro x0 H locs ls hf hP hD hS hl
    rw [f_M_isLetter_j24] at hf
    refine lv_iload_n hx hb d_M_isLetter_24 rfl (lv_at hl 0 rfl) ?_
    refine lv_bipush (v := (95 : Int32)) hx hb d_M_isLetter_25 (by decide) ?_
    refine lv_icmp_eq (tgt := 36) hx hb d_M_isLetter_27 (by decide) (fun c_3 => ?_) (fun c_3 => ?_)
    · rw [if_pos c_3] at hf
      refine lv_iconst (v := (1 : Int32)) hx hb d_M_isLetter_36 (by decide) ?_
      refine lv_goto (tgt := 41) hx hb d_M_isLetter_37 (by decide) ?_
      have ho := Option.some.inj hf
      subst o
      have hP9 := hP.sub (ws' := []) [] rfl
      have hD9 := hD.sub (ws' := []) [] (by decide) rfl
      exact W.zret (v := (1 : Int32)) (ty := .boolean) hx hb hr rfl (fun t ht hW => ⟨⟨(1 : Int32), (), rfl, ⟨rfl, rfl⟩, by rw [ht]; exact hP9, va_K.moved hW.alike hK, hD9⟩, hS.F ht⟩) hS.2.2 d_M_isLetter_41
    · rw [if_neg c_3] at hf
      refine lv_iload_n hx hb d_M_isLetter_30 rfl (lv_at hl 0 rfl) ?_
      refine lv_bipush (v := (46 : Int32)) hx hb d_M_isLetter_31 (by decide) ?_
      refine lv_icmp_ne (tgt := 40) hx hb d_M_isLetter_33 (by decide) (fun c_4 => ?_) (fun c_4 => ?_)
      · rw [if_neg c_4] at hf
        refine lv_iconst (v := (0 : Int32)) hx hb d_M_isLetter_40 (by decide) ?_
        have ho := Option.some.inj hf
        subst o
        have hP9 := hP.sub (ws' := []) [] rfl
        have hD9 := hD.sub (ws' := []) [] (by decide) rfl
        exact W.zret (v := (0 : Int32)) (ty := .boolean) hx hb hr rfl (fun t ht hW => ⟨⟨(0 : Int32), (), rfl, ⟨rfl, rfl⟩, by rw [ht]; exact hP9, va_K.moved hW.alike hK, hD9⟩, hS.F ht⟩) hS.2.2 d_M_isLetter_41
      · rw [if_pos c_4] at hf
        refine lv_iconst (v := (1 : Int32)) hx hb d_M_isLetter_36 (by decide) ?_
        refine lv_goto (tgt := 41) hx hb d_M_isLetter_37 (by decide) ?_
        have ho := Option.some.inj hf
        subst o
        have hP9 := hP.sub (ws' := []) [] rfl
        have hD9 := hD.sub (ws' := []) [] (by decide) rfl
        exact W.zret (v := (1 : Int32)) (ty := .boolean) hx hb hr rfl (fun t ht hW => ⟨⟨(1 : Int32), (), rfl, ⟨rfl, rfl⟩, by rw [ht]; exact hP9, va_K.moved hW.alike hK, hD9⟩, hS.F ht⟩) hS.2.2 d_M_isLetter_41
  have join_12 : ∀ (x0 : Int32) (H : Heap) (locs : List Loc) (ls : Array Slot), f_M_isLetter_j12 x0 = some o → va_P (dC, dI) vwCl [] H → va_D A [] → va_S A s.heap H locs → lv_has ls 1 [(0, .int x0)] → W p l e (headSpec (w_M_isLetter) ({ frames := 0, cells := 0, slots := 0, locals := 0 })).room s m [.int p0].toArray below meth c H locs 0 0 (MQ below (va_Qi (fun (r : Int32) (_ : Unit) => r = o ∧ narrow .boolean (.int r) = .int r) (fun _ t => va_P (dC, dI) vwCl [] t.heap ∧ va_K (dC, dI) vwCl [] t ∧ va_D A []) A) [.int p0].toArray s 0 0 A) (F0 m 12 ls []) := by
    intro x0 H locs ls hf hP hD hS hl
    rw [f_M_isLetter_j12] at hf
    refine lv_iload_n hx hb d_M_isLetter_12 rfl (lv_at hl 0 rfl) ?_
    refine lv_bipush (v := (65 : Int32)) hx hb d_M_isLetter_13 (by decide) ?_
    refine lv_icmp_lt (tgt := 24) hx hb d_M_isLetter_15 (by decide) (fun c_2 => ?_) (fun c_2 => ?_)
    · rw [if_pos c_2] at hf
      exact join_24 x0 H locs ls hf (hP.sub (ws' := []) [] rfl) (hD.sub (ws' := []) [] (by decide) rfl) hS (lv_sub hl [0] rfl)
    · rw [if_neg c_2] at hf
      refine lv_iload_n hx hb d_M_isLetter_18 rfl (lv_at hl 0 rfl) ?_
      refine lv_bipush (v := (90 : Int32)) hx hb d_M_isLetter_19 (by decide) ?_
      refine lv_icmp_le (tgt := 36) hx hb d_M_isLetter_21 (by decide) (fun c_5 => ?_) (fun c_5 => ?_)
      · rw [if_pos c_5] at hf
        refine lv_iconst (v := (1 : Int32)) hx hb d_M_isLetter_36 (by decide) ?_
        refine lv_goto (tgt := 41) hx hb d_M_isLetter_37 (by decide) ?_
        have ho := Option.some.inj hf
        subst o
        have hP9 := hP.sub (ws' := []) [] rfl
        have hD9 := hD.sub (ws' := []) [] (by decide) rfl
        exact W.zret (v := (1 : Int32)) (ty := .boolean) hx hb hr rfl (fun t ht hW => ⟨⟨(1 : Int32), (), rfl, ⟨rfl, rfl⟩, by rw [ht]; exact hP9, va_K.moved hW.alike hK, hD9⟩, hS.F ht⟩) hS.2.2 d_M_isLetter_41
      · rw [if_neg c_5] at hf
        exact join_24 x0 H locs ls hf (hP.sub (ws' := []) [] rfl) (hD.sub (ws' := []) [] (by decide) rfl) hS (lv_sub hl [0] rfl)
  rw [f_M_isLetter] at hf
  refine lv_iload_n hx hb d_M_isLetter_0 rfl (lv_at hl 0 rfl) ?_
  refine lv_bipush (v := (97 : Int32)) hx hb d_M_isLetter_1 (by decide) ?_
  refine lv_icmp_lt (tgt := 12) hx hb d_M_isLetter_3 (by decide) (fun c_1 => ?_) (fun c_1 => ?_)
  · rw [if_pos c_1] at hf
    exact join_12 p0 s.heap [] ls hf (hP.sub (ws' := []) [] rfl) (hD.sub (ws' := []) [] (by decide) rfl) hS (lv_sub hl [0] rfl)
  · rw [if_neg c_1] at hf
    refine lv_iload_n hx hb d_M_isLetter_6 rfl (lv_at hl 0 rfl) ?_
    refine lv_bipush (v := (122 : Int32)) hx hb d_M_isLetter_7 (by decide) ?_
    refine lv_icmp_le (tgt := 36) hx hb d_M_isLetter_9 (by decide) (fun c_6 => ?_) (fun c_6 => ?_)
    · rw [if_pos c_6] at hf
      refine lv_iconst (v := (1 : Int32)) hx hb d_M_isLetter_36 (by decide) ?_
      refine lv_goto (tgt := 41) hx hb d_M_isLetter_37 (by decide) ?_
      have ho := Option.some.inj hf
      subst o
      have hP9 := hP.sub (ws' := []) [] rfl
      have hD9 := hD.sub (ws' := []) [] (by decide) rfl
      exact W.zret (v := (1 : Int32)) (ty := .boolean) hx hb hr rfl (fun t ht hW => ⟨⟨(1 : Int32), (), rfl, ⟨rfl, rfl⟩, by rw [ht]; exact hP9, va_K.moved hW.alike hK, hD9⟩, hS.F ht⟩) hS.2.2 d_M_isLetter_41
    · rw [if_neg c_6] at hf
      exact join_12 p0 s.heap [] ls hf (hP.sub (ws' := []) [] rfl) (hD.sub (ws' := []) [] (by decide) rfl) hS (lv_sub hl [0] rfl)

def f_M_isDigit (p0 : Int32) : Option (Int32) := if p0 < (48 : Int32) then some ((0 : Int32)) else if (57 : Int32) < p0 then some ((0 : Int32)) else some ((1 : Int32))
set_option maxHeartbeats 4000000 in
set_option maxRecDepth 100000 in
theorem c_M_isDigit (l : Launch) (dC : Nat → ClassId) (dI : Nat → Nat → Nat) (sz : Nat) (p0 : Int32) (o : Int32) (hf : f_M_isDigit p0 = some o) : Met l y_M_isDigit (w_M_isDigit) ({ frames := 0, cells := 0, slots := 0, locals := 0 }) (va_Pc [.int p0] (fun U => U.heap.size = sz ∧ va_P (dC, dI) vwCl [] U.heap ∧ va_K (dC, dI) vwCl [] U ∧ va_D (fun _ => True) [] ∧ NW U)) (va_Qi (fun (r : Int32) (_ : Unit) => r = o ∧ narrow .boolean (.int r) = .int r) (fun _ t => va_P (dC, dI) vwCl [] t.heap ∧ va_K (dC, dI) vwCl [] t ∧ va_D (va_A [] sz) []) (va_A [] sz)) 0 0 (va_A [] sz) := by
  refine Met.ofW (cc := b_M_isDigit) (maxL := 1) (ret := (some .boolean)) (by decide) rfl ?_
  intro p e s m args below meth c s₁ B hml hv
  obtain ⟨rfl, hsz, hP, hK, hD0, hN⟩ := hv
  have hx := B.exec
  have hb := B.bytes
  have hr := B.returns
  have hts : ∀ w ∈ WB, w.before _ s = true := fun w h => atoms_spec (ws := w_M_isDigit) B.pre w (List.mem_cons_of_mem _ h)
  have hown : s.vm.findClass R_M = some m.cls := findClass_of_methodNamed B.named
  have hlocks := B.notSynchronized
  subst hsz
  have hD := hD0.self (sz := s.heap.size)
  generalize hAe : va_A [] s.heap.size = A at hD ⊢
  have hA : ∀ q : Nat, s.heap.size ≤ q → A q := fun q h => by rw [← hAe]; exact Or.inr h
  have hS : va_S A s.heap s.heap [] := va_S.rf
  have hP : va_P (dC, dI) vwCl [] s.heap := hP
  have hl := lv_entry [.int p0] (n := 1) (Nat.le_of_ble_eq_true rfl)
  rw [lg_entry_eq]
  generalize (lg_sl [.int p0] ++ List.replicate (1 - (lg_sl [.int p0]).length) Slot.unset).toArray = ls at hl ⊢
  have hl : lv_has ls 1 [(0, .int p0)] := hl
  rw [f_M_isDigit] at hf
  refine lv_iload_n hx hb d_M_isDigit_0 rfl (lv_at hl 0 rfl) ?_
  refine lv_bipush (v := (48 : Int32)) hx hb d_M_isDigit_1 (by decide) ?_
  refine lv_icmp_lt (tgt := 16) hx hb d_M_isDigit_3 (by decide) (fun c_1 => ?_) (fun c_1 => ?_)
  · rw [if_pos c_1] at hf
    refine lv_iconst (v := (0 : Int32)) hx hb d_M_isDigit_16 (by decide) ?_
    have ho := Option.some.inj hf
    subst o
    have hP9 := hP.sub (ws' := []) [] rfl
    have hD9 := hD.sub (ws' := []) [] (by decide) rfl
    exact W.zret (v := (0 : Int32)) (ty := .boolean) hx hb hr rfl (fun t ht hW => ⟨⟨(0 : Int32), (), rfl, ⟨rfl, rfl⟩, by rw [ht]; exact hP9, va_K.moved hW.alike hK, hD9⟩, hS.F ht⟩) hS.2.2 d_M_isDigit_17
  · rw [if_neg c_1] at hf
    refine lv_iload_n hx hb d_M_isDigit_6 rfl (lv_at hl 0 rfl) ?_
    refine lv_bipush (v := (57 : Int32)) hx hb d_M_isDigit_7 (by decide) ?_
    refine lv_icmp_gt (tgt := 16) hx hb d_M_isDigit_9 (by decide) (fun c_2 => ?_) (fun c_2 => ?_)
    · rw [if_pos c_2] at hf
      refine lv_iconst (v := (0 : Int32)) hx hb d_M_isDigit_16 (by decide) ?_
      have ho := Option.some.inj hf
      subst o
      have hP9 := hP.sub (ws' := []) [] rfl
      have hD9 := hD.sub (ws' := []) [] (by decide) rfl
      exact W.zret (v := (0 : Int32)) (ty := .boolean) hx hb hr rfl (fun t ht hW => ⟨⟨(0 : Int32), (), rfl, ⟨rfl, rfl⟩, by rw [ht]; exact hP9, va_K.moved hW.alike hK, hD9⟩, hS.F ht⟩) hS.2.2 d_M_isDigit_17
    · rw [if_neg c_2] at hf
      refine lv_iconst (v := (1 : Int32)) hx hb d_M_isDigit_12 (by decide) ?_
      refine lv_goto (tgt := 17) hx hb d_M_isDigit_13 (by decide) ?_
      have ho := Option.some.inj hf
      subst o
      have hP9 := hP.sub (ws' := []) [] rfl
      have hD9 := hD.sub (ws' := []) [] (by decide) rfl
      exact W.zret (v := (1 : Int32)) (ty := .boolean) hx hb hr rfl (fun t ht hW => ⟨⟨(1 : Int32), (), rfl, ⟨rfl, rfl⟩, by rw [ht]; exact hP9, va_K.moved hW.alike hK, hD9⟩, hS.F ht⟩) hS.2.2 d_M_isDigit_17

def f_M_isPart (mle : Int32) (mli : Nat → Int32) (p0 : Int32) : Option (Int32) := if mle ≤ p0 then some ((0 : Int32)) else gi p0 1024 ((f_M_isLetter (mli p0.toNatClampNeg)).bind (fun o_2 => if o_2 = (0 : Int32) then gi p0 1024 ((f_M_isDigit (mli p0.toNatClampNeg)).bind (fun o_4 => if o_4 = (0 : Int32) then some ((0 : Int32)) else some ((1 : Int32)))) else some ((1 : Int32))))
set_option maxHeartbeats 4000000 in
set_option maxRecDepth 100000 in
theorem c_M_isPart (l : Launch) (dC : Nat → ClassId) (dI : Nat → Nat → Nat) (bM bLi bLe bNa bNs bSt bCo bKi bBe bEn bWo bSi bPl bMi bVa : Nat) (cLim : ClassId) (sz : Nat) (mth : Int32) (mle : Int32) (mnm : Int32) (msp : Int32) (mpl : Int32) (mto : Int32) (mlr : Int32) (mma : Int32) (mod : Int32) (mfa : Int32) (mlp : Int32) (mlm : Int32) (mlv : Int64) (mli : Nat → Int32) (p0 : Int32) (o : Int32) (hf : f_M_isPart mle mli p0 = some o) : Met l y_M_isPart (w_M_isPart) ({ frames := 1, cells := 0, slots := 0, locals := 20 }) (va_Pc [.ref bM, .int p0] (fun U => U.heap.size = sz ∧ va_P (dC, dI) vwCl [(bM, .inr (7, [.int mth, .ref bLi, .int mle, .ref bLe, .ref bNa, .ref bNs, .ref bSt, .ref bCo, .int mnm, .int msp, .int mpl, .ref bKi, .ref bBe, .ref bEn, .ref bWo, .int mto, .int mlr, .ref bSi, .ref bPl, .ref bMi, .ref bVa, .int mma, .int mod, .int mfa, .int mlp, .int mlm, .long mlv])), (bLi, .inl (cLim, 1024, .inl mli))] U.heap ∧ va_K (dC, dI) vwCl [(cLim, .int)] U ∧ va_D (fun _ => True) [(bM, .inr (7, [.int mth, .ref bLi, .int mle, .ref bLe, .ref bNa, .ref bNs, .ref bSt, .ref bCo, .int mnm, .int msp, .int mpl, .ref bKi, .ref bBe, .ref bEn, .ref bWo, .int mto, .int mlr, .ref bSi, .ref bPl, .ref bMi, .ref bVa, .int mma, .int mod, .int mfa, .int mlp, .int mlm, .long mlv])), (bLi, .inl (cLim, 1024, .inl mli))] ∧ NW U)) (va_Qi (fun (r : Int32) (_ : Unit) => r = o ∧ narrow .boolean (.int r) = .int r) (fun _ t => va_P (dC, dI) vwCl [(bM, .inr (7, [.int mth, .ref bLi, .int mle, .ref bLe, .ref bNa, .ref bNs, .ref bSt, .ref bCo, .int mnm, .int msp, .int mpl, .ref bKi, .ref bBe, .ref bEn, .ref bWo, .int mto, .int mlr, .ref bSi, .ref bPl, .ref bMi, .ref bVa, .int mma, .int mod, .int mfa, .int mlp, .int mlm, .long mlv])), (bLi, .inl (cLim, 1024, .inl mli))] t.heap ∧ va_K (dC, dI) vwCl [(cLim, .int)] t ∧ va_D (va_A [(bM, .inr (7, [.int mth, .ref bLi, .int mle, .ref bLe, .ref bNa, .ref bNs, .ref bSt, .ref bCo, .int mnm, .int msp, .int mpl, .ref bKi, .ref bBe, .ref bEn, .ref bWo, .int mto, .int mlr, .ref bSi, .ref bPl, .ref bMi, .ref bVa, .int mma, .int mod, .int mfa, .int mlp, .int mlm, .long mlv])), (bLi, .inl (cLim, 1024, .inl mli))] sz) [(bM, .inr (7, [.int mth, .ref bLi, .int mle, .ref bLe, .ref bNa, .ref bNs, .ref bSt, .ref bCo, .int mnm, .int msp, .int mpl, .ref bKi, .ref bBe, .ref bEn, .ref bWo, .int mto, .int mlr, .ref bSi, .ref bPl, .ref bMi, .ref bVa, .int mma, .int mod, .int mfa, .int mlp, .int mlm, .long mlv])), (bLi, .inl (cLim, 1024, .inl mli))]) (va_A [(bM, .inr (7, [.int mth, .ref bLi, .int mle, .ref bLe, .ref bNa, .ref bNs, .ref bSt, .ref bCo, .int mnm, .int msp, .int mpl, .ref bKi, .ref bBe, .ref bEn, .ref bWo, .int mto, .int mlr, .ref bSi, .ref bPl, .ref bMi, .ref bVa, .int mma, .int mod, .int mfa, .int mlp, .int mlm, .long mlv])), (bLi, .inl (cLim, 1024, .inl mli))] sz)) 0 0 (va_A [(bM, .inr (7, [.int mth, .ref bLi, .int mle, .ref bLe, .ref bNa, .ref bNs, .ref bSt, .ref bCo, .int mnm, .int msp, .int mpl, .ref bKi, .ref bBe, .ref bEn, .ref bWo, .int mto, .int mlr, .ref bSi, .ref bPl, .ref bMi, .ref bVa, .int mma, .int mod, .int mfa, .int mlp, .int mlm, .long mlv])), (bLi, .inl (cLim, 1024, .inl mli))] sz) := by
  refine Met.ofW (cc := b_M_isPart) (maxL := 2) (ret := (some .boolean)) (by decide) rfl ?_
  intro p e s m args below meth c s₁ B hml hv
  obtain ⟨rfl, hsz, hP, hK, hD0, hN⟩ := hv
  have hx := B.exec
  have hb := B.bytes
  have hr := B.returns
  have hts : ∀ w ∈ WB, w.before _ s = true := fun w h => atoms_spec (ws := w_M_isPart) B.pre w (List.mem_cons_of_mem _ h)
  have hown : s.vm.findClass R_M = some m.cls := findClass_of_methodNamed B.named
  have hlocks := B.notSynchronized
  subst hsz
  have hD := hD0.self (sz := s.heap.size)
  generalize hAe : va_A [(bM, .inr (7, [.int mth, .ref bLi, .int mle, .ref bLe, .ref bNa, .ref bNs, .ref bSt, .ref bCo, .int mnm, .int msp, .int mpl, .ref bKi, .ref bBe, .ref bEn, .ref bWo, .int mto, .int mlr, .ref bSi, .ref bPl, .ref bMi, .ref bVa, .int mma, .int mod, .int mfa, .int mlp, .int mlm, .long mlv])), (bLi, .inl (cLim, 1024, .inl mli))] s.heap.size = A at hD ⊢
  have hA : ∀ q : Nat, s.heap.size ≤ q → A q := fun q h => by rw [← hAe]; exact Or.inr h
  have hS : va_S A s.heap s.heap [] := va_S.rf
  have hP : va_P (dC, dI) vwCl [(bM, .inr (7, [.int mth, .ref bLi, .int mle, .ref bLe, .ref bNa, .ref bNs, .ref bSt, .ref bCo, .int mnm, .int msp, .int mpl, .ref bKi, .ref bBe, .ref bEn, .ref bWo, .int mto, .int mlr, .ref bSi, .ref bPl, .ref bMi, .ref bVa, .int mma, .int mod, .int mfa, .int mlp, .int mlm, .long mlv])), (bLi, .inl (cLim, 1024, .inl mli))] s.heap := hP
  have hl := lv_entry [.ref bM, .int p0] (n := 2) (Nat.le_of_ble_eq_true rfl)
  rw [lg_entry_eq]
  generalize (lg_sl [.ref bM, .int p0] ++ List.replicate (2 - (lg_sl [.ref bM, .int p0]).length) Slot.unset).toArray = ls at hl ⊢
  have hl : lv_has ls 2 [(0, .ref bM), (1, .int p0)] := hl
  rw [f_M_isPart] at hf
  refine lv_iload_n hx hb d_M_isPart_0 rfl (lv_at hl 1 rfl) ?_
  refine lv_aload_n hx hb d_M_isPart_1 rfl (lv_at hl 0 rfl) ?_
  refine va_get (D := (dC, dI)) (ci := 7) (v := .int mle) (C := R_M) (T := F_M) (N := 27) hx hb hts i_M hown hK hP 0 rfl rfl 2 (by decide) (hts _ wb_173) (fun _ h9 => h9) rfl d_M_isPart_2 ?_
  refine lv_icmp_ge (tgt := 36) hx hb d_M_isPart_5 (by decide) (fun c_1 => ?_) (fun c_1 => ?_)
  · rw [if_pos c_1] at hf
    refine lv_iconst (v := (0 : Int32)) hx hb d_M_isPart_36 (by decide) ?_
    have ho := Option.some.inj hf
    subst o
    have hP9 := hP.sub (ws' := [(bM, .inr (7, [.int mth, .ref bLi, .int mle, .ref bLe, .ref bNa, .ref bNs, .ref bSt, .ref bCo, .int mnm, .int msp, .int mpl, .ref bKi, .ref bBe, .ref bEn, .ref bWo, .int mto, .int mlr, .ref bSi, .ref bPl, .ref bMi, .ref bVa, .int mma, .int mod, .int mfa, .int mlp, .int mlm, .long mlv])), (bLi, .inl (cLim, 1024, .inl mli))]) [0, 1] rfl
    have hD9 := hD.sub (ws' := [(bM, .inr (7, [.int mth, .ref bLi, .int mle, .ref bLe, .ref bNa, .ref bNs, .ref bSt, .ref bCo, .int mnm, .int msp, .int mpl, .ref bKi, .ref bBe, .ref bEn, .ref bWo, .int mto, .int mlr, .ref bSi, .ref bPl, .ref bMi, .ref bVa, .int mma, .int mod, .int mfa, .int mlp, .int mlm, .long mlv])), (bLi, .inl (cLim, 1024, .inl mli))]) [0, 1] (by decide) rfl
    exact W.zret (v := (0 : Int32)) (ty := .boolean) hx hb hr rfl (fun t ht hW => ⟨⟨(0 : Int32), (), rfl, ⟨rfl, rfl⟩, by rw [ht]; exact hP9, va_K.moved hW.alike hK, hD9⟩, hS.F ht⟩) hS.2.2 d_M_isPart_37
  · rw [if_neg c_1] at hf
    refine lv_aload_n hx hb d_M_isPart_8 rfl (lv_at hl 0 rfl) ?_
    refine va_get (D := (dC, dI)) (ci := 7) (v := .ref bLi) (C := R_M) (T := F_M) (N := 27) hx hb hts i_M hown hK hP 0 rfl rfl 1 (by decide) (hts _ wb_174) (fun _ h9 => h9) rfl d_M_isPart_9 ?_
    refine lv_iload_n hx hb d_M_isPart_12 rfl (lv_at hl 1 rfl) ?_
    obtain ⟨hin, hf⟩ := gi_some hf
    refine va_iald hx hb hK hP 1 0 rfl rfl hin d_M_isPart_13 ?_
    obtain ⟨o_2, hM_2, hf⟩ := bd_some hf
    refine cr_i (va_runS (As := [.int (mli p0.toNatClampNeg)]) (rest := []) ⟨hx, hb, hml, hown, hts⟩ (c_M_isLetter l dC dI   s.heap.size  (mli p0.toNatClampNeg) o_2 hM_2) (va_cwS 1 hts (gwS wb_176 wb_178 wb_179 wb_177) rfl rfl rfl (by decide +kernel) ⟨Nat.le_of_ble_eq_true rfl, Nat.le_of_ble_eq_true rfl⟩) (pr_S (hP.sub [] rfl) (hD.sub [] (by decide) rfl) hK hN [] rfl) rfl rfl hl.1 rfl (lv_room (Nat.le_of_ble_eq_true rfl)) d_M_isPart_14 ⟨Nat.zero_le _, Nat.zero_le _⟩) hP hD hS hA (in_of [] rfl) (fun r_2 H locs hw hP hS => ?_)
    obtain ⟨hw, hz_2⟩ := hw
    subst r_2
    refine lv_if_ne (tgt := 32) hx hb d_M_isPart_17 (by decide) (fun c_3 => ?_) (fun c_3 => ?_)
    · rw [if_neg c_3] at hf
      refine lv_iconst (v := (1 : Int32)) hx hb d_M_isPart_32 (by decide) ?_
      refine lv_goto (tgt := 37) hx hb d_M_isPart_33 (by decide) ?_
      have ho := Option.some.inj hf
      subst o
      have hP9 := hP.sub (ws' := [(bM, .inr (7, [.int mth, .ref bLi, .int mle, .ref bLe, .ref bNa, .ref bNs, .ref bSt, .ref bCo, .int mnm, .int msp, .int mpl, .ref bKi, .ref bBe, .ref bEn, .ref bWo, .int mto, .int mlr, .ref bSi, .ref bPl, .ref bMi, .ref bVa, .int mma, .int mod, .int mfa, .int mlp, .int mlm, .long mlv])), (bLi, .inl (cLim, 1024, .inl mli))]) [0, 1] rfl
      have hD9 := hD.sub (ws' := [(bM, .inr (7, [.int mth, .ref bLi, .int mle, .ref bLe, .ref bNa, .ref bNs, .ref bSt, .ref bCo, .int mnm, .int msp, .int mpl, .ref bKi, .ref bBe, .ref bEn, .ref bWo, .int mto, .int mlr, .ref bSi, .ref bPl, .ref bMi, .ref bVa, .int mma, .int mod, .int mfa, .int mlp, .int mlm, .long mlv])), (bLi, .inl (cLim, 1024, .inl mli))]) [0, 1] (by decide) rfl
      exact W.zret (v := (1 : Int32)) (ty := .boolean) hx hb hr rfl (fun t ht hW => ⟨⟨(1 : Int32), (), rfl, ⟨rfl, rfl⟩, by rw [ht]; exact hP9, va_K.moved hW.alike hK, hD9⟩, hS.F ht⟩) hS.2.2 d_M_isPart_37
    · rw [if_pos c_3] at hf
      refine lv_aload_n hx hb d_M_isPart_20 rfl (lv_at hl 0 rfl) ?_
      refine va_get (D := (dC, dI)) (ci := 7) (v := .ref bLi) (C := R_M) (T := F_M) (N := 27) hx hb hts i_M hown hK hP 0 rfl rfl 1 (by decide) (hts _ wb_174) (fun _ h9 => h9) rfl d_M_isPart_21 ?_
      refine lv_iload_n hx hb d_M_isPart_24 rfl (lv_at hl 1 rfl) ?_
      obtain ⟨hin, hf⟩ := gi_some hf
      refine va_iald hx hb hK hP 1 0 rfl rfl hin d_M_isPart_25 ?_
      obtain ⟨o_4, hM_4, hf⟩ := bd_some hf
      refine cr_i (va_runS (As := [.int (mli p0.toNatClampNeg)]) (rest := []) ⟨hx, hb, hml, hown, hts⟩ (c_M_isDigit l dC dI   H.size  (mli p0.toNatClampNeg) o_4 hM_4) (va_cwS 1 hts (gwS wb_180 wb_182 wb_179 wb_181) rfl rfl rfl (by decide +kernel) ⟨Nat.le_of_ble_eq_true rfl, Nat.le_of_ble_eq_true rfl⟩) (pr_S (hP.sub [] rfl) (hD.sub [] (by decide) rfl) hK hN [] rfl) rfl rfl hl.1 rfl (lv_room (Nat.le_of_ble_eq_true rfl)) d_M_isPart_26 ⟨Nat.zero_le _, Nat.zero_le _⟩) hP hD hS hA (in_of [] rfl) (fun r_4 H locs hw hP hS => ?_)
      obtain ⟨hw, hz_4⟩ := hw
      subst r_4
      refine lv_if_eq (tgt := 36) hx hb d_M_isPart_29 (by decide) (fun c_5 => ?_) (fun c_5 => ?_)
      · rw [if_pos c_5] at hf
        refine lv_iconst (v := (0 : Int32)) hx hb d_M_isPart_36 (by decide) ?_
        have ho := Option.some.inj hf
        subst o
        have hP9 := hP.sub (ws' := [(bM, .inr (7, [.int mth, .ref bLi, .int mle, .ref bLe, .ref bNa, .ref bNs, .ref bSt, .ref bCo, .int mnm, .int msp, .int mpl, .ref bKi, .ref bBe, .ref bEn, .ref bWo, .int mto, .int mlr, .ref bSi, .ref bPl, .ref bMi, .ref bVa, .int mma, .int mod, .int mfa, .int mlp, .int mlm, .long mlv])), (bLi, .inl (cLim, 1024, .inl mli))]) [0, 1] rfl
        have hD9 := hD.sub (ws' := [(bM, .inr (7, [.int mth, .ref bLi, .int mle, .ref bLe, .ref bNa, .ref bNs, .ref bSt, .ref bCo, .int mnm, .int msp, .int mpl, .ref bKi, .ref bBe, .ref bEn, .ref bWo, .int mto, .int mlr, .ref bSi, .ref bPl, .ref bMi, .ref bVa, .int mma, .int mod, .int mfa, .int mlp, .int mlm, .long mlv])), (bLi, .inl (cLim, 1024, .inl mli))]) [0, 1] (by decide) rfl
        exact W.zret (v := (0 : Int32)) (ty := .boolean) hx hb hr rfl (fun t ht hW => ⟨⟨(0 : Int32), (), rfl, ⟨rfl, rfl⟩, by rw [ht]; exact hP9, va_K.moved hW.alike hK, hD9⟩, hS.F ht⟩) hS.2.2 d_M_isPart_37
      · rw [if_neg c_5] at hf
        refine lv_iconst (v := (1 : Int32)) hx hb d_M_isPart_32 (by decide) ?_
        refine lv_goto (tgt := 37) hx hb d_M_isPart_33 (by decide) ?_
        have ho := Option.some.inj hf
        subst o
        have hP9 := hP.sub (ws' := [(bM, .inr (7, [.int mth, .ref bLi, .int mle, .ref bLe, .ref bNa, .ref bNs, .ref bSt, .ref bCo, .int mnm, .int msp, .int mpl, .ref bKi, .ref bBe, .ref bEn, .ref bWo, .int mto, .int mlr, .ref bSi, .ref bPl, .ref bMi, .ref bVa, .int mma, .int mod, .int mfa, .int mlp, .int mlm, .long mlv])), (bLi, .inl (cLim, 1024, .inl mli))]) [0, 1] rfl
        have hD9 := hD.sub (ws' := [(bM, .inr (7, [.int mth, .ref bLi, .int mle, .ref bLe, .ref bNa, .ref bNs, .ref bSt, .ref bCo, .int mnm, .int msp, .int mpl, .ref bKi, .ref bBe, .ref bEn, .ref bWo, .int mto, .int mlr, .ref bSi, .ref bPl, .ref bMi, .ref bVa, .int mma, .int mod, .int mfa, .int mlp, .int mlm, .long mlv])), (bLi, .inl (cLim, 1024, .inl mli))]) [0, 1] (by decide) rfl
        exact W.zret (v := (1 : Int32)) (ty := .boolean) hx hb hr rfl (fun t ht hW => ⟨⟨(1 : Int32), (), rfl, ⟨rfl, rfl⟩, by rw [ht]; exact hP9, va_K.moved hW.alike hK, hD9⟩, hS.F ht⟩) hS.2.2 d_M_isPart_37

def f_M_digit_j33 (x0 : Int32) : Option (Int32) := if x0 < (65 : Int32) then some ((99 : Int32)) else if (70 : Int32) < x0 then some ((99 : Int32)) else some (x0 - (55 : Int32))
def f_M_digit (p0 : Int32) : Option (Int32) := (f_M_isDigit p0).bind (fun o_1 => if o_1 = (0 : Int32) then if p0 < (97 : Int32) then f_M_digit_j33 p0 else if (102 : Int32) < p0 then f_M_digit_j33 p0 else some (p0 - (87 : Int32)) else some (p0 - (48 : Int32)))
set_option maxHeartbeats 4000000 in
set_option maxRecDepth 100000 in
theorem c_M_digit (l : Launch) (dC : Nat → ClassId) (dI : Nat → Nat → Nat) (sz : Nat) (p0 : Int32) (o : Int32) (hf : f_M_digit p0 = some o) : Met l y_M_digit (w_M_digit) ({ frames := 1, cells := 0, slots := 0, locals := 20 }) (va_Pc [.int p0] (fun U => U.heap.size = sz ∧ va_P (dC, dI) vwCl [] U.heap ∧ va_K (dC, dI) vwCl [] U ∧ va_D (fun _ => True) [] ∧ NW U)) (va_Qi (fun (r : Int32) (_ : Unit) => r = o) (fun _ t => va_P (dC, dI) vwCl [] t.heap ∧ va_K (dC, dI) vwCl [] t ∧ va_D (va_A [] sz) []) (va_A [] sz)) 0 0 (va_A [] sz) := by
  refine Met.ofW (cc := b_M_digit) (maxL := 1) (ret := (some .int)) (by decide) rfl ?_
  intro p e s m args below meth c s₁ B hml hv
  obtain ⟨rfl, hsz, hP, hK, hD0, hN⟩ := hv
  have hx := B.exec
  have hb := B.bytes
  have hr := B.returns
  have hts : ∀ w ∈ WB, w.before _ s = true := fun w h => atoms_spec (ws := w_M_digit) B.pre w (List.mem_cons_of_mem _ h)
  have hown : s.vm.findClass R_M = some m.cls := findClass_of_methodNamed B.named
  have hlocks := B.notSynchronized
  subst hsz
  have hD := hD0.self (sz := s.heap.size)
  generalize hAe : va_A [] s.heap.size = A at hD ⊢
  have hA : ∀ q : Nat, s.heap.size ≤ q → A q := fun q h => by rw [← hAe]; exact Or.inr h
  have hS : va_S A s.heap s.heap [] := va_S.rf
  have hP : va_P (dC, dI) vwCl [] s.heap := hP
  have hl := lv_entry [.int p0] (n := 1) (Nat.le_of_ble_eq_true rfl)
  rw [lg_entry_eq]
  generalize (lg_sl [.int p0] ++ List.replicate (1 - (lg_sl [.int p0]).length) Slot.unset).toArray = ls at hl ⊢
  have hl : lv_has ls 1 [(0, .int p0)] := hl
  have join_33 : ∀ (x0 : Int32) (H : Heap) (locs : List Loc) (ls : Array Slot), f_M_digit_j33 x0 = some o → va_P (dC, dI) vwCl [] H → va_D A [] → va_S A s.heap H locs → lv_has ls 1 [(0, .int x0)] → W p l e (headSpec (w_M_digit) ({ frames := 1, cells := 0, slots := 0, locals := 20 })).room s m [.int p0].toArray below meth c H locs 0 0 (MQ below (va_Qi (fun (r : Int32) (_ : Unit) => r = o) (fun _ t => va_P (dC, dI) vwCl [] t.heap ∧ va_K (dC, dI) vwCl [] t ∧ va_D A []) A) [.int p0].toArray s 0 0 A) (F0 m 33 ls []) := by
    intro x0 H locs ls hf hP hD hS hl
    rw [f_M_digit_j33] at hf
    refine lv_iload_n hx hb d_M_digit_33 rfl (lv_at hl 0 rfl) ?_
    refine lv_bipush (v := (65 : Int32)) hx hb d_M_digit_34 (by decide) ?_
    refine lv_icmp_lt (tgt := 52) hx hb d_M_digit_36 (by decide) (fun c_4 => ?_) (fun c_4 => ?_)
    · rw [if_pos c_4] at hf
      refine lv_bipush (v := (99 : Int32)) hx hb d_M_digit_52 (by decide) ?_
      have ho := Option.some.inj hf
      subst o
      have hP9 := hP.sub (ws' := []) [] rfl
      have hD9 := hD.sub (ws' := []) [] (by decide) rfl
      exact W.iret (v := (99 : Int32)) hx hb hr (fun t ht hW => ⟨⟨(99 : Int32), (), rfl, rfl, by rw [ht]; exact hP9, va_K.moved hW.alike hK, hD9⟩, hS.F ht⟩) hS.2.2 d_M_digit_54
    · rw [if_neg c_4] at hf
      refine lv_iload_n hx hb d_M_digit_39 rfl (lv_at hl 0 rfl) ?_
      refine lv_bipush (v := (70 : Int32)) hx hb d_M_digit_40 (by decide) ?_
      refine lv_icmp_gt (tgt := 52) hx hb d_M_digit_42 (by decide) (fun c_5 => ?_) (fun c_5 => ?_)
      · rw [if_pos c_5] at hf
        refine lv_bipush (v := (99 : Int32)) hx hb d_M_digit_52 (by decide) ?_
        have ho := Option.some.inj hf
        subst o
        have hP9 := hP.sub (ws' := []) [] rfl
        have hD9 := hD.sub (ws' := []) [] (by decide) rfl
        exact W.iret (v := (99 : Int32)) hx hb hr (fun t ht hW => ⟨⟨(99 : Int32), (), rfl, rfl, by rw [ht]; exact hP9, va_K.moved hW.alike hK, hD9⟩, hS.F ht⟩) hS.2.2 d_M_digit_54
      · rw [if_neg c_5] at hf
        refine lv_iload_n hx hb d_M_digit_45 rfl (lv_at hl 0 rfl) ?_
        refine lv_bipush (v := (55 : Int32)) hx hb d_M_digit_46 (by decide) ?_
        refine lv_isub hx hb d_M_digit_48 ?_
        refine lv_goto (tgt := 54) hx hb d_M_digit_49 (by decide) ?_
        have ho := Option.some.inj hf
        subst o
        have hP9 := hP.sub (ws' := []) [] rfl
        have hD9 := hD.sub (ws' := []) [] (by decide) rfl
        exact W.iret (v := x0 - (55 : Int32)) hx hb hr (fun t ht hW => ⟨⟨x0 - (55 : Int32), (), rfl, rfl, by rw [ht]; exact hP9, va_K.moved hW.alike hK, hD9⟩, hS.F ht⟩) hS.2.2 d_M_digit_54
  rw [f_M_digit] at hf
  refine lv_iload_n hx hb d_M_digit_0 rfl (lv_at hl 0 rfl) ?_
  obtain ⟨o_1, hM_1, hf⟩ := bd_some hf
  refine cr_i (va_runS (As := [.int p0]) (rest := []) ⟨hx, hb, hml, hown, hts⟩ (c_M_isDigit l dC dI   s.heap.size  p0 o_1 hM_1) (va_cwS 1 hts (gwS wb_180 wb_182 wb_179 wb_181) rfl rfl rfl (by decide +kernel) ⟨Nat.le_of_ble_eq_true rfl, Nat.le_of_ble_eq_true rfl⟩) (pr_S (hP.sub [] rfl) (hD.sub [] (by decide) rfl) hK hN [] rfl) rfl rfl hl.1 rfl (lv_room (Nat.le_of_ble_eq_true rfl)) d_M_digit_1 ⟨Nat.zero_le _, Nat.zero_le _⟩) hP hD hS hA (in_of [] rfl) (fun r_1 H locs hw hP hS => ?_)
  obtain ⟨hw, hz_1⟩ := hw
  subst r_1
  refine lv_if_eq (tgt := 14) hx hb d_M_digit_4 (by decide) (fun c_2 => ?_) (fun c_2 => ?_)
  · rw [if_pos c_2] at hf
    refine lv_iload_n hx hb d_M_digit_14 rfl (lv_at hl 0 rfl) ?_
    refine lv_bipush (v := (97 : Int32)) hx hb d_M_digit_15 (by decide) ?_
    refine lv_icmp_lt (tgt := 33) hx hb d_M_digit_17 (by decide) (fun c_3 => ?_) (fun c_3 => ?_)
    · rw [if_pos c_3] at hf
      exact join_33 p0 H locs ls hf (hP.sub (ws' := []) [] rfl) (hD.sub (ws' := []) [] (by decide) rfl) hS (lv_sub hl [0] rfl)
    · rw [if_neg c_3] at hf
      refine lv_iload_n hx hb d_M_digit_20 rfl (lv_at hl 0 rfl) ?_
      refine lv_bipush (v := (102 : Int32)) hx hb d_M_digit_21 (by decide) ?_
      refine lv_icmp_gt (tgt := 33) hx hb d_M_digit_23 (by decide) (fun c_6 => ?_) (fun c_6 => ?_)
      · rw [if_pos c_6] at hf
        exact join_33 p0 H locs ls hf (hP.sub (ws' := []) [] rfl) (hD.sub (ws' := []) [] (by decide) rfl) hS (lv_sub hl [0] rfl)
      · rw [if_neg c_6] at hf
        refine lv_iload_n hx hb d_M_digit_26 rfl (lv_at hl 0 rfl) ?_
        refine lv_bipush (v := (87 : Int32)) hx hb d_M_digit_27 (by decide) ?_
        refine lv_isub hx hb d_M_digit_29 ?_
        refine lv_goto (tgt := 54) hx hb d_M_digit_30 (by decide) ?_
        have ho := Option.some.inj hf
        subst o
        have hP9 := hP.sub (ws' := []) [] rfl
        have hD9 := hD.sub (ws' := []) [] (by decide) rfl
        exact W.iret (v := p0 - (87 : Int32)) hx hb hr (fun t ht hW => ⟨⟨p0 - (87 : Int32), (), rfl, rfl, by rw [ht]; exact hP9, va_K.moved hW.alike hK, hD9⟩, hS.F ht⟩) hS.2.2 d_M_digit_54
  · rw [if_neg c_2] at hf
    refine lv_iload_n hx hb d_M_digit_7 rfl (lv_at hl 0 rfl) ?_
    refine lv_bipush (v := (48 : Int32)) hx hb d_M_digit_8 (by decide) ?_
    refine lv_isub hx hb d_M_digit_10 ?_
    refine lv_goto (tgt := 54) hx hb d_M_digit_11 (by decide) ?_
    have ho := Option.some.inj hf
    subst o
    have hP9 := hP.sub (ws' := []) [] rfl
    have hD9 := hD.sub (ws' := []) [] (by decide) rfl
    exact W.iret (v := p0 - (48 : Int32)) hx hb hr (fun t ht hW => ⟨⟨p0 - (48 : Int32), (), rfl, rfl, by rw [ht]; exact hP9, va_K.moved hW.alike hK, hD9⟩, hS.F ht⟩) hS.2.2 d_M_digit_54

def f_M_add (mto : Int32) (mki : Nat → Int32) (mbe : Nat → Int32) (men : Nat → Int32) (mwo : Nat → Int64) (p0 : Int32) (p1 : Int32) (p2 : Int32) (p3 : Int64) : Option (Int32 × (Nat → Int32) × (Nat → Int32) × (Nat → Int32) × (Nat → Int64)) := gi mto 1100 (gi mto 1100 (gi mto 1100 (gi mto 1100 (some (mto + (1 : Int32), upd mki mto.toNatClampNeg p0, upd mbe mto.toNatClampNeg p1, upd men mto.toNatClampNeg p2, vp_updL mwo mto.toNatClampNeg p3)))))
set_option maxHeartbeats 4000000 in
set_option maxRecDepth 100000 in
theorem c_M_add (l : Launch) (dC : Nat → ClassId) (dI : Nat → Nat → Nat) (bM bLi bLe bNa bNs bSt bCo bKi bBe bEn bWo bSi bPl bMi bVa : Nat) (cKim cBem cEnm cWom : ClassId) (sz : Nat) (mth : Int32) (mle : Int32) (mnm : Int32) (msp : Int32) (mpl : Int32) (mto : Int32) (mlr : Int32) (mma : Int32) (mod : Int32) (mfa : Int32) (mlp : Int32) (mlm : Int32) (mlv : Int64) (mki : Nat → Int32) (mbe : Nat → Int32) (men : Nat → Int32) (mwo : Nat → Int64) (p0 : Int32) (p1 : Int32) (p2 : Int32) (p3 : Int64) (o : Int32 × (Nat → Int32) × (Nat → Int32) × (Nat → Int32) × (Nat → Int64)) (hf : f_M_add mto mki mbe men mwo p0 p1 p2 p3 = some o) : Met l y_M_add (w_M_add) ({ frames := 0, cells := 0, slots := 0, locals := 0 }) (va_Pc [.ref bM, .int p0, .int p1, .int p2, .long p3] (fun U => U.heap.size = sz ∧ va_P (dC, dI) vwCl [(bM, .inr (7, [.int mth, .ref bLi, .int mle, .ref bLe, .ref bNa, .ref bNs, .ref bSt, .ref bCo, .int mnm, .int msp, .int mpl, .ref bKi, .ref bBe, .ref bEn, .ref bWo, .int mto, .int mlr, .ref bSi, .ref bPl, .ref bMi, .ref bVa, .int mma, .int mod, .int mfa, .int mlp, .int mlm, .long mlv])), (bKi, .inl (cKim, 1100, .inl mki)), (bBe, .inl (cBem, 1100, .inl mbe)), (bEn, .inl (cEnm, 1100, .inl men)), (bWo, .inl (cWom, 1100, .inr (.inl mwo)))] U.heap ∧ va_K (dC, dI) vwCl [(cKim, .int), (cBem, .int), (cEnm, .int), (cWom, .long)] U ∧ va_D (fun _ => True) [(bM, .inr (7, [.int mth, .ref bLi, .int mle, .ref bLe, .ref bNa, .ref bNs, .ref bSt, .ref bCo, .int mnm, .int msp, .int mpl, .ref bKi, .ref bBe, .ref bEn, .ref bWo, .int mto, .int mlr, .ref bSi, .ref bPl, .ref bMi, .ref bVa, .int mma, .int mod, .int mfa, .int mlp, .int mlm, .long mlv])), (bKi, .inl (cKim, 1100, .inl mki)), (bBe, .inl (cBem, 1100, .inl mbe)), (bEn, .inl (cEnm, 1100, .inl men)), (bWo, .inl (cWom, 1100, .inr (.inl mwo)))] ∧ NW U)) (va_Qv (fun (_ : Unit) => True) (fun _ t => va_P (dC, dI) vwCl [(bM, .inr (7, [.int mth, .ref bLi, .int mle, .ref bLe, .ref bNa, .ref bNs, .ref bSt, .ref bCo, .int mnm, .int msp, .int mpl, .ref bKi, .ref bBe, .ref bEn, .ref bWo, .int o.1, .int mlr, .ref bSi, .ref bPl, .ref bMi, .ref bVa, .int mma, .int mod, .int mfa, .int mlp, .int mlm, .long mlv])), (bKi, .inl (cKim, 1100, .inl o.2.1)), (bBe, .inl (cBem, 1100, .inl o.2.2.1)), (bEn, .inl (cEnm, 1100, .inl o.2.2.2.1)), (bWo, .inl (cWom, 1100, .inr (.inl o.2.2.2.2)))] t.heap ∧ va_K (dC, dI) vwCl [(cKim, .int), (cBem, .int), (cEnm, .int), (cWom, .long)] t ∧ va_D (va_A [(bM, .inr (7, [.int mth, .ref bLi, .int mle, .ref bLe, .ref bNa, .ref bNs, .ref bSt, .ref bCo, .int mnm, .int msp, .int mpl, .ref bKi, .ref bBe, .ref bEn, .ref bWo, .int mto, .int mlr, .ref bSi, .ref bPl, .ref bMi, .ref bVa, .int mma, .int mod, .int mfa, .int mlp, .int mlm, .long mlv])), (bKi, .inl (cKim, 1100, .inl mki)), (bBe, .inl (cBem, 1100, .inl mbe)), (bEn, .inl (cEnm, 1100, .inl men)), (bWo, .inl (cWom, 1100, .inr (.inl mwo)))] sz) [(bM, .inr (7, [.int mth, .ref bLi, .int mle, .ref bLe, .ref bNa, .ref bNs, .ref bSt, .ref bCo, .int mnm, .int msp, .int mpl, .ref bKi, .ref bBe, .ref bEn, .ref bWo, .int o.1, .int mlr, .ref bSi, .ref bPl, .ref bMi, .ref bVa, .int mma, .int mod, .int mfa, .int mlp, .int mlm, .long mlv])), (bKi, .inl (cKim, 1100, .inl o.2.1)), (bBe, .inl (cBem, 1100, .inl o.2.2.1)), (bEn, .inl (cEnm, 1100, .inl o.2.2.2.1)), (bWo, .inl (cWom, 1100, .inr (.inl o.2.2.2.2)))]) (va_A [(bM, .inr (7, [.int mth, .ref bLi, .int mle, .ref bLe, .ref bNa, .ref bNs, .ref bSt, .ref bCo, .int mnm, .int msp, .int mpl, .ref bKi, .ref bBe, .ref bEn, .ref bWo, .int mto, .int mlr, .ref bSi, .ref bPl, .ref bMi, .ref bVa, .int mma, .int mod, .int mfa, .int mlp, .int mlm, .long mlv])), (bKi, .inl (cKim, 1100, .inl mki)), (bBe, .inl (cBem, 1100, .inl mbe)), (bEn, .inl (cEnm, 1100, .inl men)), (bWo, .inl (cWom, 1100, .inr (.inl mwo)))] sz)) 0 0 (va_A [(bM, .inr (7, [.int mth, .ref bLi, .int mle, .ref bLe, .ref bNa, .ref bNs, .ref bSt, .ref bCo, .int mnm, .int msp, .int mpl, .ref bKi, .ref bBe, .ref bEn, .ref bWo, .int mto, .int mlr, .ref bSi, .ref bPl, .ref bMi, .ref bVa, .int mma, .int mod, .int mfa, .int mlp, .int mlm, .long mlv])), (bKi, .inl (cKim, 1100, .inl mki)), (bBe, .inl (cBem, 1100, .inl mbe)), (bEn, .inl (cEnm, 1100, .inl men)), (bWo, .inl (cWom, 1100, .inr (.inl mwo)))] sz) := by
  refine Met.ofW (cc := b_M_add) (maxL := 6) (ret := none) (by decide) rfl ?_
  intro p e s m args below meth c s₁ B hml hv
  obtain ⟨rfl, hsz, hP, hK, hD0, hN⟩ := hv
  have hx := B.exec
  have hb := B.bytes
  have hr := B.returns
  have hts : ∀ w ∈ WB, w.before _ s = true := fun w h => atoms_spec (ws := w_M_add) B.pre w (List.mem_cons_of_mem _ h)
  have hown : s.vm.findClass R_M = some m.cls := findClass_of_methodNamed B.named
  have hlocks := B.notSynchronized
  subst hsz
  have hD := hD0.self (sz := s.heap.size)
  generalize hAe : va_A [(bM, .inr (7, [.int mth, .ref bLi, .int mle, .ref bLe, .ref bNa, .ref bNs, .ref bSt, .ref bCo, .int mnm, .int msp, .int mpl, .ref bKi, .ref bBe, .ref bEn, .ref bWo, .int mto, .int mlr, .ref bSi, .ref bPl, .ref bMi, .ref bVa, .int mma, .int mod, .int mfa, .int mlp, .int mlm, .long mlv])), (bKi, .inl (cKim, 1100, .inl mki)), (bBe, .inl (cBem, 1100, .inl mbe)), (bEn, .inl (cEnm, 1100, .inl men)), (bWo, .inl (cWom, 1100, .inr (.inl mwo)))] s.heap.size = A at hD ⊢
  have hA : ∀ q : Nat, s.heap.size ≤ q → A q := fun q h => by rw [← hAe]; exact Or.inr h
  have hS : va_S A s.heap s.heap [] := va_S.rf
  have hP : va_P (dC, dI) vwCl [(bM, .inr (7, [.int mth, .ref bLi, .int mle, .ref bLe, .ref bNa, .ref bNs, .ref bSt, .ref bCo, .int mnm, .int msp, .int mpl, .ref bKi, .ref bBe, .ref bEn, .ref bWo, .int mto, .int mlr, .ref bSi, .ref bPl, .ref bMi, .ref bVa, .int mma, .int mod, .int mfa, .int mlp, .int mlm, .long mlv])), (bKi, .inl (cKim, 1100, .inl mki)), (bBe, .inl (cBem, 1100, .inl mbe)), (bEn, .inl (cEnm, 1100, .inl men)), (bWo, .inl (cWom, 1100, .inr (.inl mwo)))] s.heap := hP
  have hl := lv_entry [.ref bM, .int p0, .int p1, .int p2, .long p3] (n := 6) (Nat.le_of_ble_eq_true rfl)
  rw [lg_entry_eq]
  generalize (lg_sl [.ref bM, .int p0, .int p1, .int p2, .long p3] ++ List.replicate (6 - (lg_sl [.ref bM, .int p0, .int p1, .int p2, .long p3]).length) Slot.unset).toArray = ls at hl ⊢
  have hl : lv_has ls 6 [(0, .ref bM), (1, .int p0), (2, .int p1), (3, .int p2), (4, .long p3)] := hl
  rw [f_M_add] at hf
  refine lv_aload_n hx hb d_M_add_0 rfl (lv_at hl 0 rfl) ?_
  refine va_get (D := (dC, dI)) (ci := 7) (v := .ref bKi) (C := R_M) (T := F_M) (N := 27) hx hb hts i_M hown hK hP 0 rfl rfl 11 (by decide) (hts _ wb_183) (fun _ h9 => h9) rfl d_M_add_1 ?_
  refine lv_aload_n hx hb d_M_add_4 rfl (lv_at hl 0 rfl) ?_
  refine va_get (D := (dC, dI)) (ci := 7) (v := .int mto) (C := R_M) (T := F_M) (N := 27) hx hb hts i_M hown hK hP 0 rfl rfl 15 (by decide) (hts _ wb_184) (fun _ h9 => h9) rfl d_M_add_5 ?_
  refine lv_iload_n hx hb d_M_add_8 rfl (lv_at hl 1 rfl) ?_
  obtain ⟨hin, hf⟩ := gi_some hf
  refine va_iast hx hb hK hP hD hS 1 0 rfl rfl hin d_M_add_9 (fun H locs hP hD hS => ?_)
  have hP : va_P (dC, dI) vwCl [(bM, .inr (7, [.int mth, .ref bLi, .int mle, .ref bLe, .ref bNa, .ref bNs, .ref bSt, .ref bCo, .int mnm, .int msp, .int mpl, .ref bKi, .ref bBe, .ref bEn, .ref bWo, .int mto, .int mlr, .ref bSi, .ref bPl, .ref bMi, .ref bVa, .int mma, .int mod, .int mfa, .int mlp, .int mlm, .long mlv])), (bKi, .inl (cKim, 1100, .inl (upd mki mto.toNatClampNeg p0))), (bBe, .inl (cBem, 1100, .inl mbe)), (bEn, .inl (cEnm, 1100, .inl men)), (bWo, .inl (cWom, 1100, .inr (.inl mwo)))] H := hP
  have hD : va_D A [(bM, .inr (7, [.int mth, .ref bLi, .int mle, .ref bLe, .ref bNa, .ref bNs, .ref bSt, .ref bCo, .int mnm, .int msp, .int mpl, .ref bKi, .ref bBe, .ref bEn, .ref bWo, .int mto, .int mlr, .ref bSi, .ref bPl, .ref bMi, .ref bVa, .int mma, .int mod, .int mfa, .int mlp, .int mlm, .long mlv])), (bKi, .inl (cKim, 1100, .inl (upd mki mto.toNatClampNeg p0))), (bBe, .inl (cBem, 1100, .inl mbe)), (bEn, .inl (cEnm, 1100, .inl men)), (bWo, .inl (cWom, 1100, .inr (.inl mwo)))] := hD
  refine lv_aload_n hx hb d_M_add_10 rfl (lv_at hl 0 rfl) ?_
  refine va_get (D := (dC, dI)) (ci := 7) (v := .ref bBe) (C := R_M) (T := F_M) (N := 27) hx hb hts i_M hown hK hP 0 rfl rfl 12 (by decide) (hts _ wb_185) (fun _ h9 => h9) rfl d_M_add_11 ?_
  refine lv_aload_n hx hb d_M_add_14 rfl (lv_at hl 0 rfl) ?_
  refine va_get (D := (dC, dI)) (ci := 7) (v := .int mto) (C := R_M) (T := F_M) (N := 27) hx hb hts i_M hown hK hP 0 rfl rfl 15 (by decide) (hts _ wb_184) (fun _ h9 => h9) rfl d_M_add_15 ?_
  refine lv_iload_n hx hb d_M_add_18 rfl (lv_at hl 2 rfl) ?_
  obtain ⟨hin, hf⟩ := gi_some hf
  refine va_iast hx hb hK hP hD hS 2 1 rfl rfl hin d_M_add_19 (fun H locs hP hD hS => ?_)
  have hP : va_P (dC, dI) vwCl [(bM, .inr (7, [.int mth, .ref bLi, .int mle, .ref bLe, .ref bNa, .ref bNs, .ref bSt, .ref bCo, .int mnm, .int msp, .int mpl, .ref bKi, .ref bBe, .ref bEn, .ref bWo, .int mto, .int mlr, .ref bSi, .ref bPl, .ref bMi, .ref bVa, .int mma, .int mod, .int mfa, .int mlp, .int mlm, .long mlv])), (bKi, .inl (cKim, 1100, .inl (upd mki mto.toNatClampNeg p0))), (bBe, .inl (cBem, 1100, .inl (upd mbe mto.toNatClampNeg p1))), (bEn, .inl (cEnm, 1100, .inl men)), (bWo, .inl (cWom, 1100, .inr (.inl mwo)))] H := hP
  have hD : va_D A [(bM, .inr (7, [.int mth, .ref bLi, .int mle, .ref bLe, .ref bNa, .ref bNs, .ref bSt, .ref bCo, .int mnm, .int msp, .int mpl, .ref bKi, .ref bBe, .ref bEn, .ref bWo, .int mto, .int mlr, .ref bSi, .ref bPl, .ref bMi, .ref bVa, .int mma, .int mod, .int mfa, .int mlp, .int mlm, .long mlv])), (bKi, .inl (cKim, 1100, .inl (upd mki mto.toNatClampNeg p0))), (bBe, .inl (cBem, 1100, .inl (upd mbe mto.toNatClampNeg p1))), (bEn, .inl (cEnm, 1100, .inl men)), (bWo, .inl (cWom, 1100, .inr (.inl mwo)))] := hD
  refine lv_aload_n hx hb d_M_add_20 rfl (lv_at hl 0 rfl) ?_
  refine va_get (D := (dC, dI)) (ci := 7) (v := .ref bEn) (C := R_M) (T := F_M) (N := 27) hx hb hts i_M hown hK hP 0 rfl rfl 13 (by decide) (hts _ wb_186) (fun _ h9 => h9) rfl d_M_add_21 ?_
  refine lv_aload_n hx hb d_M_add_24 rfl (lv_at hl 0 rfl) ?_
  refine va_get (D := (dC, dI)) (ci := 7) (v := .int mto) (C := R_M) (T := F_M) (N := 27) hx hb hts i_M hown hK hP 0 rfl rfl 15 (by decide) (hts _ wb_184) (fun _ h9 => h9) rfl d_M_add_25 ?_
  refine lv_iload_n hx hb d_M_add_28 rfl (lv_at hl 3 rfl) ?_
  obtain ⟨hin, hf⟩ := gi_some hf
  refine va_iast hx hb hK hP hD hS 3 2 rfl rfl hin d_M_add_29 (fun H locs hP hD hS => ?_)
  have hP : va_P (dC, dI) vwCl [(bM, .inr (7, [.int mth, .ref bLi, .int mle, .ref bLe, .ref bNa, .ref bNs, .ref bSt, .ref bCo, .int mnm, .int msp, .int mpl, .ref bKi, .ref bBe, .ref bEn, .ref bWo, .int mto, .int mlr, .ref bSi, .ref bPl, .ref bMi, .ref bVa, .int mma, .int mod, .int mfa, .int mlp, .int mlm, .long mlv])), (bKi, .inl (cKim, 1100, .inl (upd mki mto.toNatClampNeg p0))), (bBe, .inl (cBem, 1100, .inl (upd mbe mto.toNatClampNeg p1))), (bEn, .inl (cEnm, 1100, .inl (upd men mto.toNatClampNeg p2))), (bWo, .inl (cWom, 1100, .inr (.inl mwo)))] H := hP
  have hD : va_D A [(bM, .inr (7, [.int mth, .ref bLi, .int mle, .ref bLe, .ref bNa, .ref bNs, .ref bSt, .ref bCo, .int mnm, .int msp, .int mpl, .ref bKi, .ref bBe, .ref bEn, .ref bWo, .int mto, .int mlr, .ref bSi, .ref bPl, .ref bMi, .ref bVa, .int mma, .int mod, .int mfa, .int mlp, .int mlm, .long mlv])), (bKi, .inl (cKim, 1100, .inl (upd mki mto.toNatClampNeg p0))), (bBe, .inl (cBem, 1100, .inl (upd mbe mto.toNatClampNeg p1))), (bEn, .inl (cEnm, 1100, .inl (upd men mto.toNatClampNeg p2))), (bWo, .inl (cWom, 1100, .inr (.inl mwo)))] := hD
  refine lv_aload_n hx hb d_M_add_30 rfl (lv_at hl 0 rfl) ?_
  refine va_get (D := (dC, dI)) (ci := 7) (v := .ref bWo) (C := R_M) (T := F_M) (N := 27) hx hb hts i_M hown hK hP 0 rfl rfl 14 (by decide) (hts _ wb_187) (fun _ h9 => h9) rfl d_M_add_31 ?_
  refine lv_aload_n hx hb d_M_add_34 rfl (lv_at hl 0 rfl) ?_
  refine va_get (D := (dC, dI)) (ci := 7) (v := .int mto) (C := R_M) (T := F_M) (N := 27) hx hb hts i_M hown hK hP 0 rfl rfl 15 (by decide) (hts _ wb_184) (fun _ h9 => h9) rfl d_M_add_35 ?_
  refine lv_lload hx hb d_M_add_38 (lv_at hl 4 rfl) ?_
  obtain ⟨hin, hf⟩ := gi_some hf
  refine va_last hx hb hK hP hD hS 4 3 rfl rfl hin d_M_add_40 (fun H locs hP hD hS => ?_)
  have hP : va_P (dC, dI) vwCl [(bM, .inr (7, [.int mth, .ref bLi, .int mle, .ref bLe, .ref bNa, .ref bNs, .ref bSt, .ref bCo, .int mnm, .int msp, .int mpl, .ref bKi, .ref bBe, .ref bEn, .ref bWo, .int mto, .int mlr, .ref bSi, .ref bPl, .ref bMi, .ref bVa, .int mma, .int mod, .int mfa, .int mlp, .int mlm, .long mlv])), (bKi, .inl (cKim, 1100, .inl (upd mki mto.toNatClampNeg p0))), (bBe, .inl (cBem, 1100, .inl (upd mbe mto.toNatClampNeg p1))), (bEn, .inl (cEnm, 1100, .inl (upd men mto.toNatClampNeg p2))), (bWo, .inl (cWom, 1100, .inr (.inl (vp_updL mwo mto.toNatClampNeg p3))))] H := hP
  have hD : va_D A [(bM, .inr (7, [.int mth, .ref bLi, .int mle, .ref bLe, .ref bNa, .ref bNs, .ref bSt, .ref bCo, .int mnm, .int msp, .int mpl, .ref bKi, .ref bBe, .ref bEn, .ref bWo, .int mto, .int mlr, .ref bSi, .ref bPl, .ref bMi, .ref bVa, .int mma, .int mod, .int mfa, .int mlp, .int mlm, .long mlv])), (bKi, .inl (cKim, 1100, .inl (upd mki mto.toNatClampNeg p0))), (bBe, .inl (cBem, 1100, .inl (upd mbe mto.toNatClampNeg p1))), (bEn, .inl (cEnm, 1100, .inl (upd men mto.toNatClampNeg p2))), (bWo, .inl (cWom, 1100, .inr (.inl (vp_updL mwo mto.toNatClampNeg p3))))] := hD
  refine lv_aload_n hx hb d_M_add_41 rfl (lv_at hl 0 rfl) ?_
  refine lv_dup hx hb d_M_add_42 rfl ?_
  refine va_get (D := (dC, dI)) (ci := 7) (v := .int mto) (C := R_M) (T := F_M) (N := 27) hx hb hts i_M hown hK hP 0 rfl rfl 15 (by decide) (hts _ wb_184) (fun _ h9 => h9) rfl d_M_add_43 ?_
  refine lv_iconst (v := (1 : Int32)) hx hb d_M_add_46 (by decide) ?_
  refine lv_iadd hx hb d_M_add_47 ?_
  refine va_put (D := (dC, dI)) (ci := 7) (v := .int (mto + (1 : Int32))) (ty := .int) (C := R_M) (T := F_M) (N := 27) hx hb hts i_M ft_M tk_M n_M hown hK hP hD hS 0 rfl rfl 15 (by decide) (hts _ wb_184) (fun _ h9 => h9) rfl (by decide +kernel) rfl rfl (Nat.le_of_ble_eq_true rfl) d_M_add_48 (fun H locs hP hD hS => ?_)
  have hP : va_P (dC, dI) vwCl [(bM, .inr (7, [.int mth, .ref bLi, .int mle, .ref bLe, .ref bNa, .ref bNs, .ref bSt, .ref bCo, .int mnm, .int msp, .int mpl, .ref bKi, .ref bBe, .ref bEn, .ref bWo, .int (mto + (1 : Int32)), .int mlr, .ref bSi, .ref bPl, .ref bMi, .ref bVa, .int mma, .int mod, .int mfa, .int mlp, .int mlm, .long mlv])), (bKi, .inl (cKim, 1100, .inl (upd mki mto.toNatClampNeg p0))), (bBe, .inl (cBem, 1100, .inl (upd mbe mto.toNatClampNeg p1))), (bEn, .inl (cEnm, 1100, .inl (upd men mto.toNatClampNeg p2))), (bWo, .inl (cWom, 1100, .inr (.inl (vp_updL mwo mto.toNatClampNeg p3))))] H := hP
  have hD : va_D A [(bM, .inr (7, [.int mth, .ref bLi, .int mle, .ref bLe, .ref bNa, .ref bNs, .ref bSt, .ref bCo, .int mnm, .int msp, .int mpl, .ref bKi, .ref bBe, .ref bEn, .ref bWo, .int (mto + (1 : Int32)), .int mlr, .ref bSi, .ref bPl, .ref bMi, .ref bVa, .int mma, .int mod, .int mfa, .int mlp, .int mlm, .long mlv])), (bKi, .inl (cKim, 1100, .inl (upd mki mto.toNatClampNeg p0))), (bBe, .inl (cBem, 1100, .inl (upd mbe mto.toNatClampNeg p1))), (bEn, .inl (cEnm, 1100, .inl (upd men mto.toNatClampNeg p2))), (bWo, .inl (cWom, 1100, .inr (.inl (vp_updL mwo mto.toNatClampNeg p3))))] := hD
  have ho := Option.some.inj hf
  subst o
  have hP9 := hP.sub (ws' := [(bM, .inr (7, [.int mth, .ref bLi, .int mle, .ref bLe, .ref bNa, .ref bNs, .ref bSt, .ref bCo, .int mnm, .int msp, .int mpl, .ref bKi, .ref bBe, .ref bEn, .ref bWo, .int (mto + (1 : Int32)), .int mlr, .ref bSi, .ref bPl, .ref bMi, .ref bVa, .int mma, .int mod, .int mfa, .int mlp, .int mlm, .long mlv])), (bKi, .inl (cKim, 1100, .inl (upd mki mto.toNatClampNeg p0))), (bBe, .inl (cBem, 1100, .inl (upd mbe mto.toNatClampNeg p1))), (bEn, .inl (cEnm, 1100, .inl (upd men mto.toNatClampNeg p2))), (bWo, .inl (cWom, 1100, .inr (.inl (vp_updL mwo mto.toNatClampNeg p3))))]) [0, 1, 2, 3, 4] rfl
  have hD9 := hD.sub (ws' := [(bM, .inr (7, [.int mth, .ref bLi, .int mle, .ref bLe, .ref bNa, .ref bNs, .ref bSt, .ref bCo, .int mnm, .int msp, .int mpl, .ref bKi, .ref bBe, .ref bEn, .ref bWo, .int (mto + (1 : Int32)), .int mlr, .ref bSi, .ref bPl, .ref bMi, .ref bVa, .int mma, .int mod, .int mfa, .int mlp, .int mlm, .long mlv])), (bKi, .inl (cKim, 1100, .inl (upd mki mto.toNatClampNeg p0))), (bBe, .inl (cBem, 1100, .inl (upd mbe mto.toNatClampNeg p1))), (bEn, .inl (cEnm, 1100, .inl (upd men mto.toNatClampNeg p2))), (bWo, .inl (cWom, 1100, .inr (.inl (vp_updL mwo mto.toNatClampNeg p3))))]) [0, 1, 2, 3, 4] (by decide) rfl
  exact W.vret hx hb hr (fun t ht hW => ⟨⟨(), rfl, trivial, by rw [ht]; exact hP9, va_K.moved hW.alike hK, hD9⟩, hS.F ht⟩) hS.2.2 d_M_add_51

def f_M_isPlain (mle : Int32) (mli : Nat → Int32) (p0 : Int32) : Option (Int32) := if mle ≤ p0 then some ((0 : Int32)) else gi p0 1024 (if (mli p0.toNatClampNeg) < (32 : Int32) then some ((0 : Int32)) else gi p0 1024 (if (126 : Int32) < (mli p0.toNatClampNeg) then some ((0 : Int32)) else some ((1 : Int32))))
set_option maxHeartbeats 4000000 in
set_option maxRecDepth 100000 in
theorem c_M_isPlain (l : Launch) (dC : Nat → ClassId) (dI : Nat → Nat → Nat) (bM bLi bLe bNa bNs bSt bCo bKi bBe bEn bWo bSi bPl bMi bVa : Nat) (cLim : ClassId) (sz : Nat) (mth : Int32) (mle : Int32) (mnm : Int32) (msp : Int32) (mpl : Int32) (mto : Int32) (mlr : Int32) (mma : Int32) (mod : Int32) (mfa : Int32) (mlp : Int32) (mlm : Int32) (mlv : Int64) (mli : Nat → Int32) (p0 : Int32) (o : Int32) (hf : f_M_isPlain mle mli p0 = some o) : Met l y_M_isPlain (w_M_isPlain) ({ frames := 0, cells := 0, slots := 0, locals := 0 }) (va_Pc [.ref bM, .int p0] (fun U => U.heap.size = sz ∧ va_P (dC, dI) vwCl [(bM, .inr (7, [.int mth, .ref bLi, .int mle, .ref bLe, .ref bNa, .ref bNs, .ref bSt, .ref bCo, .int mnm, .int msp, .int mpl, .ref bKi, .ref bBe, .ref bEn, .ref bWo, .int mto, .int mlr, .ref bSi, .ref bPl, .ref bMi, .ref bVa, .int mma, .int mod, .int mfa, .int mlp, .int mlm, .long mlv])), (bLi, .inl (cLim, 1024, .inl mli))] U.heap ∧ va_K (dC, dI) vwCl [(cLim, .int)] U ∧ va_D (fun _ => True) [(bM, .inr (7, [.int mth, .ref bLi, .int mle, .ref bLe, .ref bNa, .ref bNs, .ref bSt, .ref bCo, .int mnm, .int msp, .int mpl, .ref bKi, .ref bBe, .ref bEn, .ref bWo, .int mto, .int mlr, .ref bSi, .ref bPl, .ref bMi, .ref bVa, .int mma, .int mod, .int mfa, .int mlp, .int mlm, .long mlv])), (bLi, .inl (cLim, 1024, .inl mli))] ∧ NW U)) (va_Qi (fun (r : Int32) (_ : Unit) => r = o ∧ narrow .boolean (.int r) = .int r) (fun _ t => va_P (dC, dI) vwCl [(bM, .inr (7, [.int mth, .ref bLi, .int mle, .ref bLe, .ref bNa, .ref bNs, .ref bSt, .ref bCo, .int mnm, .int msp, .int mpl, .ref bKi, .ref bBe, .ref bEn, .ref bWo, .int mto, .int mlr, .ref bSi, .ref bPl, .ref bMi, .ref bVa, .int mma, .int mod, .int mfa, .int mlp, .int mlm, .long mlv])), (bLi, .inl (cLim, 1024, .inl mli))] t.heap ∧ va_K (dC, dI) vwCl [(cLim, .int)] t ∧ va_D (va_A [(bM, .inr (7, [.int mth, .ref bLi, .int mle, .ref bLe, .ref bNa, .ref bNs, .ref bSt, .ref bCo, .int mnm, .int msp, .int mpl, .ref bKi, .ref bBe, .ref bEn, .ref bWo, .int mto, .int mlr, .ref bSi, .ref bPl, .ref bMi, .ref bVa, .int mma, .int mod, .int mfa, .int mlp, .int mlm, .long mlv])), (bLi, .inl (cLim, 1024, .inl mli))] sz) [(bM, .inr (7, [.int mth, .ref bLi, .int mle, .ref bLe, .ref bNa, .ref bNs, .ref bSt, .ref bCo, .int mnm, .int msp, .int mpl, .ref bKi, .ref bBe, .ref bEn, .ref bWo, .int mto, .int mlr, .ref bSi, .ref bPl, .ref bMi, .ref bVa, .int mma, .int mod, .int mfa, .int mlp, .int mlm, .long mlv])), (bLi, .inl (cLim, 1024, .inl mli))]) (va_A [(bM, .inr (7, [.int mth, .ref bLi, .int mle, .ref bLe, .ref bNa, .ref bNs, .ref bSt, .ref bCo, .int mnm, .int msp, .int mpl, .ref bKi, .ref bBe, .ref bEn, .ref bWo, .int mto, .int mlr, .ref bSi, .ref bPl, .ref bMi, .ref bVa, .int mma, .int mod, .int mfa, .int mlp, .int mlm, .long mlv])), (bLi, .inl (cLim, 1024, .inl mli))] sz)) 0 0 (va_A [(bM, .inr (7, [.int mth, .ref bLi, .int mle, .ref bLe, .ref bNa, .ref bNs, .ref bSt, .ref bCo, .int mnm, .int msp, .int mpl, .ref bKi, .ref bBe, .ref bEn, .ref bWo, .int mto, .int mlr, .ref bSi, .ref bPl, .ref bMi, .ref bVa, .int mma, .int mod, .int mfa, .int mlp, .int mlm, .long mlv])), (bLi, .inl (cLim, 1024, .inl mli))] sz) := by
  refine Met.ofW (cc := b_M_isPlain) (maxL := 2) (ret := (some .boolean)) (by decide) rfl ?_
  intro p e s m args below meth c s₁ B hml hv
  obtain ⟨rfl, hsz, hP, hK, hD0, hN⟩ := hv
  have hx := B.exec
  have hb := B.bytes
  have hr := B.returns
  have hts : ∀ w ∈ WB, w.before _ s = true := fun w h => atoms_spec (ws := w_M_isPlain) B.pre w (List.mem_cons_of_mem _ h)
  have hown : s.vm.findClass R_M = some m.cls := findClass_of_methodNamed B.named
  have hlocks := B.notSynchronized
  subst hsz
  have hD := hD0.self (sz := s.heap.size)
  generalize hAe : va_A [(bM, .inr (7, [.int mth, .ref bLi, .int mle, .ref bLe, .ref bNa, .ref bNs, .ref bSt, .ref bCo, .int mnm, .int msp, .int mpl, .ref bKi, .ref bBe, .ref bEn, .ref bWo, .int mto, .int mlr, .ref bSi, .ref bPl, .ref bMi, .ref bVa, .int mma, .int mod, .int mfa, .int mlp, .int mlm, .long mlv])), (bLi, .inl (cLim, 1024, .inl mli))] s.heap.size = A at hD ⊢
  have hA : ∀ q : Nat, s.heap.size ≤ q → A q := fun q h => by rw [← hAe]; exact Or.inr h
  have hS : va_S A s.heap s.heap [] := va_S.rf
  have hP : va_P (dC, dI) vwCl [(bM, .inr (7, [.int mth, .ref bLi, .int mle, .ref bLe, .ref bNa, .ref bNs, .ref bSt, .ref bCo, .int mnm, .int msp, .int mpl, .ref bKi, .ref bBe, .ref bEn, .ref bWo, .int mto, .int mlr, .ref bSi, .ref bPl, .ref bMi, .ref bVa, .int mma, .int mod, .int mfa, .int mlp, .int mlm, .long mlv])), (bLi, .inl (cLim, 1024, .inl mli))] s.heap := hP
  have hl := lv_entry [.ref bM, .int p0] (n := 2) (Nat.le_of_ble_eq_true rfl)
  rw [lg_entry_eq]
  generalize (lg_sl [.ref bM, .int p0] ++ List.replicate (2 - (lg_sl [.ref bM, .int p0]).length) Slot.unset).toArray = ls at hl ⊢
  have hl : lv_has ls 2 [(0, .ref bM), (1, .int p0)] := hl
  rw [f_M_isPlain] at hf
  refine lv_iload_n hx hb d_M_isPlain_0 rfl (lv_at hl 1 rfl) ?_
  refine lv_aload_n hx hb d_M_isPlain_1 rfl (lv_at hl 0 rfl) ?_
  refine va_get (D := (dC, dI)) (ci := 7) (v := .int mle) (C := R_M) (T := F_M) (N := 27) hx hb hts i_M hown hK hP 0 rfl rfl 2 (by decide) (hts _ wb_173) (fun _ h9 => h9) rfl d_M_isPlain_2 ?_
  refine lv_icmp_ge (tgt := 34) hx hb d_M_isPlain_5 (by decide) (fun c_1 => ?_) (fun c_1 => ?_)
  · rw [if_pos c_1] at hf
    refine lv_iconst (v := (0 : Int32)) hx hb d_M_isPlain_34 (by decide) ?_
    have ho := Option.some.inj hf
    subst o
    have hP9 := hP.sub (ws' := [(bM, .inr (7, [.int mth, .ref bLi, .int mle, .ref bLe, .ref bNa, .ref bNs, .ref bSt, .ref bCo, .int mnm, .int msp, .int mpl, .ref bKi, .ref bBe, .ref bEn, .ref bWo, .int mto, .int mlr, .ref bSi, .ref bPl, .ref bMi, .ref bVa, .int mma, .int mod, .int mfa, .int mlp, .int mlm, .long mlv])), (bLi, .inl (cLim, 1024, .inl mli))]) [0, 1] rfl
    have hD9 := hD.sub (ws' := [(bM, .inr (7, [.int mth, .ref bLi, .int mle, .ref bLe, .ref bNa, .ref bNs, .ref bSt, .ref bCo, .int mnm, .int msp, .int mpl, .ref bKi, .ref bBe, .ref bEn, .ref bWo, .int mto, .int mlr, .ref bSi, .ref bPl, .ref bMi, .ref bVa, .int mma, .int mod, .int mfa, .int mlp, .int mlm, .long mlv])), (bLi, .inl (cLim, 1024, .inl mli))]) [0, 1] (by decide) rfl
    exact W.zret (v := (0 : Int32)) (ty := .boolean) hx hb hr rfl (fun t ht hW => ⟨⟨(0 : Int32), (), rfl, ⟨rfl, rfl⟩, by rw [ht]; exact hP9, va_K.moved hW.alike hK, hD9⟩, hS.F ht⟩) hS.2.2 d_M_isPlain_35
  · rw [if_neg c_1] at hf
    refine lv_aload_n hx hb d_M_isPlain_8 rfl (lv_at hl 0 rfl) ?_
    refine va_get (D := (dC, dI)) (ci := 7) (v := .ref bLi) (C := R_M) (T := F_M) (N := 27) hx hb hts i_M hown hK hP 0 rfl rfl 1 (by decide) (hts _ wb_174) (fun _ h9 => h9) rfl d_M_isPlain_9 ?_
    refine lv_iload_n hx hb d_M_isPlain_12 rfl (lv_at hl 1 rfl) ?_
    obtain ⟨hin, hf⟩ := gi_some hf
    refine va_iald hx hb hK hP 1 0 rfl rfl hin d_M_isPlain_13 ?_
    refine lv_bipush (v := (32 : Int32)) hx hb d_M_isPlain_14 (by decide) ?_
    refine lv_icmp_lt (tgt := 34) hx hb d_M_isPlain_16 (by decide) (fun c_2 => ?_) (fun c_2 => ?_)
    · rw [if_pos c_2] at hf
      refine lv_iconst (v := (0 : Int32)) hx hb d_M_isPlain_34 (by decide) ?_
      have ho := Option.some.inj hf
      subst o
      have hP9 := hP.sub (ws' := [(bM, .inr (7, [.int mth, .ref bLi, .int mle, .ref bLe, .ref bNa, .ref bNs, .ref bSt, .ref bCo, .int mnm, .int msp, .int mpl, .ref bKi, .ref bBe, .ref bEn, .ref bWo, .int mto, .int mlr, .ref bSi, .ref bPl, .ref bMi, .ref bVa, .int mma, .int mod, .int mfa, .int mlp, .int mlm, .long mlv])), (bLi, .inl (cLim, 1024, .inl mli))]) [0, 1] rfl
      have hD9 := hD.sub (ws' := [(bM, .inr (7, [.int mth, .ref bLi, .int mle, .ref bLe, .ref bNa, .ref bNs, .ref bSt, .ref bCo, .int mnm, .int msp, .int mpl, .ref bKi, .ref bBe, .ref bEn, .ref bWo, .int mto, .int mlr, .ref bSi, .ref bPl, .ref bMi, .ref bVa, .int mma, .int mod, .int mfa, .int mlp, .int mlm, .long mlv])), (bLi, .inl (cLim, 1024, .inl mli))]) [0, 1] (by decide) rfl
      exact W.zret (v := (0 : Int32)) (ty := .boolean) hx hb hr rfl (fun t ht hW => ⟨⟨(0 : Int32), (), rfl, ⟨rfl, rfl⟩, by rw [ht]; exact hP9, va_K.moved hW.alike hK, hD9⟩, hS.F ht⟩) hS.2.2 d_M_isPlain_35
    · rw [if_neg c_2] at hf
      refine lv_aload_n hx hb d_M_isPlain_19 rfl (lv_at hl 0 rfl) ?_
      refine va_get (D := (dC, dI)) (ci := 7) (v := .ref bLi) (C := R_M) (T := F_M) (N := 27) hx hb hts i_M hown hK hP 0 rfl rfl 1 (by decide) (hts _ wb_174) (fun _ h9 => h9) rfl d_M_isPlain_20 ?_
      refine lv_iload_n hx hb d_M_isPlain_23 rfl (lv_at hl 1 rfl) ?_
      obtain ⟨hin, hf⟩ := gi_some hf
      refine va_iald hx hb hK hP 1 0 rfl rfl hin d_M_isPlain_24 ?_
      refine lv_bipush (v := (126 : Int32)) hx hb d_M_isPlain_25 (by decide) ?_
      refine lv_icmp_gt (tgt := 34) hx hb d_M_isPlain_27 (by decide) (fun c_3 => ?_) (fun c_3 => ?_)
      · rw [if_pos c_3] at hf
        refine lv_iconst (v := (0 : Int32)) hx hb d_M_isPlain_34 (by decide) ?_
        have ho := Option.some.inj hf
        subst o
        have hP9 := hP.sub (ws' := [(bM, .inr (7, [.int mth, .ref bLi, .int mle, .ref bLe, .ref bNa, .ref bNs, .ref bSt, .ref bCo, .int mnm, .int msp, .int mpl, .ref bKi, .ref bBe, .ref bEn, .ref bWo, .int mto, .int mlr, .ref bSi, .ref bPl, .ref bMi, .ref bVa, .int mma, .int mod, .int mfa, .int mlp, .int mlm, .long mlv])), (bLi, .inl (cLim, 1024, .inl mli))]) [0, 1] rfl
        have hD9 := hD.sub (ws' := [(bM, .inr (7, [.int mth, .ref bLi, .int mle, .ref bLe, .ref bNa, .ref bNs, .ref bSt, .ref bCo, .int mnm, .int msp, .int mpl, .ref bKi, .ref bBe, .ref bEn, .ref bWo, .int mto, .int mlr, .ref bSi, .ref bPl, .ref bMi, .ref bVa, .int mma, .int mod, .int mfa, .int mlp, .int mlm, .long mlv])), (bLi, .inl (cLim, 1024, .inl mli))]) [0, 1] (by decide) rfl
        exact W.zret (v := (0 : Int32)) (ty := .boolean) hx hb hr rfl (fun t ht hW => ⟨⟨(0 : Int32), (), rfl, ⟨rfl, rfl⟩, by rw [ht]; exact hP9, va_K.moved hW.alike hK, hD9⟩, hS.F ht⟩) hS.2.2 d_M_isPlain_35
      · rw [if_neg c_3] at hf
        refine lv_iconst (v := (1 : Int32)) hx hb d_M_isPlain_30 (by decide) ?_
        refine lv_goto (tgt := 35) hx hb d_M_isPlain_31 (by decide) ?_
        have ho := Option.some.inj hf
        subst o
        have hP9 := hP.sub (ws' := [(bM, .inr (7, [.int mth, .ref bLi, .int mle, .ref bLe, .ref bNa, .ref bNs, .ref bSt, .ref bCo, .int mnm, .int msp, .int mpl, .ref bKi, .ref bBe, .ref bEn, .ref bWo, .int mto, .int mlr, .ref bSi, .ref bPl, .ref bMi, .ref bVa, .int mma, .int mod, .int mfa, .int mlp, .int mlm, .long mlv])), (bLi, .inl (cLim, 1024, .inl mli))]) [0, 1] rfl
        have hD9 := hD.sub (ws' := [(bM, .inr (7, [.int mth, .ref bLi, .int mle, .ref bLe, .ref bNa, .ref bNs, .ref bSt, .ref bCo, .int mnm, .int msp, .int mpl, .ref bKi, .ref bBe, .ref bEn, .ref bWo, .int mto, .int mlr, .ref bSi, .ref bPl, .ref bMi, .ref bVa, .int mma, .int mod, .int mfa, .int mlp, .int mlm, .long mlv])), (bLi, .inl (cLim, 1024, .inl mli))]) [0, 1] (by decide) rfl
        exact W.zret (v := (1 : Int32)) (ty := .boolean) hx hb hr rfl (fun t ht hW => ⟨⟨(1 : Int32), (), rfl, ⟨rfl, rfl⟩, by rw [ht]; exact hP9, va_K.moved hW.alike hK, hD9⟩, hS.F ht⟩) hS.2.2 d_M_isPlain_35

def f_M_character (mle : Int32) (mlr : Int32) (mli : Nat → Int32) (p0 : Int32) (p1 : Int32) : Option (Int32 × Int32) := (f_M_isPlain mle mli p0).bind (fun o_1 => if o_1 = (0 : Int32) then some ((-1 : Int32), mlr) else gi p0 1024 (if (mli p0.toNatClampNeg) = p1 then some ((-1 : Int32), mlr) else gi p0 1024 (if (mli p0.toNatClampNeg) = (92 : Int32) then (f_M_isPlain mle mli (p0 + (1 : Int32))).bind (fun o_5 => if o_5 = (0 : Int32) then some ((-1 : Int32), mli p0.toNatClampNeg) else gi (p0 + (1 : Int32)) 1024 (if (mli (p0 + (1 : Int32)).toNatClampNeg) = (110 : Int32) then some (p0 + (2 : Int32), (10 : Int32)) else if (mli (p0 + (1 : Int32)).toNatClampNeg) = (116 : Int32) then some (p0 + (2 : Int32), (9 : Int32)) else if (mli (p0 + (1 : Int32)).toNatClampNeg) = (48 : Int32) then some (p0 + (2 : Int32), (0 : Int32)) else some (p0 + (2 : Int32), mli (p0 + (1 : Int32)).toNatClampNeg))) else some (p0 + (1 : Int32), mli p0.toNatClampNeg))))
set_option maxHeartbeats 4000000 in
set_option maxRecDepth 100000 in
theorem c_M_character (l : Launch) (dC : Nat → ClassId) (dI : Nat → Nat → Nat) (bM bLi bLe bNa bNs bSt bCo bKi bBe bEn bWo bSi bPl bMi bVa : Nat) (cLim : ClassId) (sz : Nat) (mth : Int32) (mle : Int32) (mnm : Int32) (msp : Int32) (mpl : Int32) (mto : Int32) (mlr : Int32) (mma : Int32) (mod : Int32) (mfa : Int32) (mlp : Int32) (mlm : Int32) (mlv : Int64) (mli : Nat → Int32) (p0 : Int32) (p1 : Int32) (o : Int32 × Int32) (hf : f_M_character mle mlr mli p0 p1 = some o) : Met l y_M_character (w_M_character) ({ frames := 1, cells := 0, slots := 0, locals := 21 }) (va_Pc [.ref bM, .int p0, .int p1] (fun U => U.heap.size = sz ∧ va_P (dC, dI) vwCl [(bM, .inr (7, [.int mth, .ref bLi, .int mle, .ref bLe, .ref bNa, .ref bNs, .ref bSt, .ref bCo, .int mnm, .int msp, .int mpl, .ref bKi, .ref bBe, .ref bEn, .ref bWo, .int mto, .int mlr, .ref bSi, .ref bPl, .ref bMi, .ref bVa, .int mma, .int mod, .int mfa, .int mlp, .int mlm, .long mlv])), (bLi, .inl (cLim, 1024, .inl mli))] U.heap ∧ va_K (dC, dI) vwCl [(cLim, .int)] U ∧ va_D (fun _ => True) [(bM, .inr (7, [.int mth, .ref bLi, .int mle, .ref bLe, .ref bNa, .ref bNs, .ref bSt, .ref bCo, .int mnm, .int msp, .int mpl, .ref bKi, .ref bBe, .ref bEn, .ref bWo, .int mto, .int mlr, .ref bSi, .ref bPl, .ref bMi, .ref bVa, .int mma, .int mod, .int mfa, .int mlp, .int mlm, .long mlv])), (bLi, .inl (cLim, 1024, .inl mli))] ∧ NW U)) (va_Qi (fun (r : Int32) (_ : Unit) => r = o.1) (fun _ t => va_P (dC, dI) vwCl [(bM, .inr (7, [.int mth, .ref bLi, .int mle, .ref bLe, .ref bNa, .ref bNs, .ref bSt, .ref bCo, .int mnm, .int msp, .int mpl, .ref bKi, .ref bBe, .ref bEn, .ref bWo, .int mto, .int o.2, .ref bSi, .ref bPl, .ref bMi, .ref bVa, .int mma, .int mod, .int mfa, .int mlp, .int mlm, .long mlv])), (bLi, .inl (cLim, 1024, .inl mli))] t.heap ∧ va_K (dC, dI) vwCl [(cLim, .int)] t ∧ va_D (va_A [(bM, .inr (7, [.int mth, .ref bLi, .int mle, .ref bLe, .ref bNa, .ref bNs, .ref bSt, .ref bCo, .int mnm, .int msp, .int mpl, .ref bKi, .ref bBe, .ref bEn, .ref bWo, .int mto, .int mlr, .ref bSi, .ref bPl, .ref bMi, .ref bVa, .int mma, .int mod, .int mfa, .int mlp, .int mlm, .long mlv])), (bLi, .inl (cLim, 1024, .inl mli))] sz) [(bM, .inr (7, [.int mth, .ref bLi, .int mle, .ref bLe, .ref bNa, .ref bNs, .ref bSt, .ref bCo, .int mnm, .int msp, .int mpl, .ref bKi, .ref bBe, .ref bEn, .ref bWo, .int mto, .int o.2, .ref bSi, .ref bPl, .ref bMi, .ref bVa, .int mma, .int mod, .int mfa, .int mlp, .int mlm, .long mlv])), (bLi, .inl (cLim, 1024, .inl mli))]) (va_A [(bM, .inr (7, [.int mth, .ref bLi, .int mle, .ref bLe, .ref bNa, .ref bNs, .ref bSt, .ref bCo, .int mnm, .int msp, .int mpl, .ref bKi, .ref bBe, .ref bEn, .ref bWo, .int mto, .int mlr, .ref bSi, .ref bPl, .ref bMi, .ref bVa, .int mma, .int mod, .int mfa, .int mlp, .int mlm, .long mlv])), (bLi, .inl (cLim, 1024, .inl mli))] sz)) 0 0 (va_A [(bM, .inr (7, [.int mth, .ref bLi, .int mle, .ref bLe, .ref bNa, .ref bNs, .ref bSt, .ref bCo, .int mnm, .int msp, .int mpl, .ref bKi, .ref bBe, .ref bEn, .ref bWo, .int mto, .int mlr, .ref bSi, .ref bPl, .ref bMi, .ref bVa, .int mma, .int mod, .int mfa, .int mlp, .int mlm, .long mlv])), (bLi, .inl (cLim, 1024, .inl mli))] sz) := by
  refine Met.ofW (cc := b_M_character) (maxL := 4) (ret := (some .int)) (by decide) rfl ?_
  intro p e s m args below meth c s₁ B hml hv
  obtain ⟨rfl, hsz, hP, hK, hD0, hN⟩ := hv
  have hx := B.exec
  have hb := B.bytes
  have hr := B.returns
  have hts : ∀ w ∈ WB, w.before _ s = true := fun w h => atoms_spec (ws := w_M_character) B.pre w (List.mem_cons_of_mem _ h)
  have hown : s.vm.findClass R_M = some m.cls := findClass_of_methodNamed B.named
  have hlocks := B.notSynchronized
  subst hsz
  have hD := hD0.self (sz := s.heap.size)
  generalize hAe : va_A [(bM, .inr (7, [.int mth, .ref bLi, .int mle, .ref bLe, .ref bNa, .ref bNs, .ref bSt, .ref bCo, .int mnm, .int msp, .int mpl, .ref bKi, .ref bBe, .ref bEn, .ref bWo, .int mto, .int mlr, .ref bSi, .ref bPl, .ref bMi, .ref bVa, .int mma, .int mod, .int mfa, .int mlp, .int mlm, .long mlv])), (bLi, .inl (cLim, 1024, .inl mli))] s.heap.size = A at hD ⊢
  have hA : ∀ q : Nat, s.heap.size ≤ q → A q := fun q h => by rw [← hAe]; exact Or.inr h
  have hS : va_S A s.heap s.heap [] := va_S.rf
  have hP : va_P (dC, dI) vwCl [(bM, .inr (7, [.int mth, .ref bLi, .int mle, .ref bLe, .ref bNa, .ref bNs, .ref bSt, .ref bCo, .int mnm, .int msp, .int mpl, .ref bKi, .ref bBe, .ref bEn, .ref bWo, .int mto, .int mlr, .ref bSi, .ref bPl, .ref bMi, .ref bVa, .int mma, .int mod, .int mfa, .int mlp, .int mlm, .long mlv])), (bLi, .inl (cLim, 1024, .inl mli))] s.heap := hP
  have hl := lv_entry [.ref bM, .int p0, .int p1] (n := 4) (Nat.le_of_ble_eq_true rfl)
  rw [lg_entry_eq]
  generalize (lg_sl [.ref bM, .int p0, .int p1] ++ List.replicate (4 - (lg_sl [.ref bM, .int p0, .int p1]).length) Slot.unset).toArray = ls at hl ⊢
  have hl : lv_has ls 4 [(0, .ref bM), (1, .int p0), (2, .int p1)] := hl
  rw [f_M_character] at hf
  refine lv_aload_n hx hb d_M_character_0 rfl (lv_at hl 0 rfl) ?_
  refine lv_iload_n hx hb d_M_character_1 rfl (lv_at hl 1 rfl) ?_
  obtain ⟨o_1, hM_1, hf⟩ := bd_some hf
  refine cr_i (va_runV (As := [.int p0]) (rest := []) ⟨hx, hb, hml, hown, hts⟩ (c_M_isPlain l dC dI bM bLi bLe bNa bNs bSt bCo bKi bBe bEn bWo bSi bPl bMi bVa cLim s.heap.size mth mle mnm msp mpl mto mlr mma mod mfa mlp mlm mlv mli p0 o_1 hM_1) (cwV 1 hts (gwV wb_188 wb_190 wb_191 wb_179 wb_189) rfl rfl rfl (by decide +kernel) ⟨Nat.le_of_ble_eq_true rfl, Nat.le_of_ble_eq_true rfl⟩) (pr_V (hP.sub [0, 1] rfl) (hD.sub [0, 1] (by decide) rfl) hK hN [0] rfl (ci := 7) rfl rfl rfl) rfl rfl hl.1 rfl (lv_room (Nat.le_of_ble_eq_true rfl)) d_M_character_2 ⟨Nat.zero_le _, Nat.zero_le _⟩) hP hD hS hA (in_of [0, 1] rfl) (fun r_1 H locs hw hP hS => ?_)
  obtain ⟨hw, hz_1⟩ := hw
  subst r_1
  refine lv_if_eq (tgt := 18) hx hb d_M_character_5 (by decide) (fun c_2 => ?_) (fun c_2 => ?_)
  · rw [if_pos c_2] at hf
    refine lv_iconst (v := (-1 : Int32)) hx hb d_M_character_18 (by decide) ?_
    have ho := Option.some.inj hf
    subst o
    have hP9 := hP.sub (ws' := [(bM, .inr (7, [.int mth, .ref bLi, .int mle, .ref bLe, .ref bNa, .ref bNs, .ref bSt, .ref bCo, .int mnm, .int msp, .int mpl, .ref bKi, .ref bBe, .ref bEn, .ref bWo, .int mto, .int mlr, .ref bSi, .ref bPl, .ref bMi, .ref bVa, .int mma, .int mod, .int mfa, .int mlp, .int mlm, .long mlv])), (bLi, .inl (cLim, 1024, .inl mli))]) [0, 1] rfl
    have hD9 := hD.sub (ws' := [(bM, .inr (7, [.int mth, .ref bLi, .int mle, .ref bLe, .ref bNa, .ref bNs, .ref bSt, .ref bCo, .int mnm, .int msp, .int mpl, .ref bKi, .ref bBe, .ref bEn, .ref bWo, .int mto, .int mlr, .ref bSi, .ref bPl, .ref bMi, .ref bVa, .int mma, .int mod, .int mfa, .int mlp, .int mlm, .long mlv])), (bLi, .inl (cLim, 1024, .inl mli))]) [0, 1] (by decide) rfl
    exact W.iret (v := (-1 : Int32)) hx hb hr (fun t ht hW => ⟨⟨(-1 : Int32), (), rfl, rfl, by rw [ht]; exact hP9, va_K.moved hW.alike hK, hD9⟩, hS.F ht⟩) hS.2.2 d_M_character_19
  · rw [if_neg c_2] at hf
    refine lv_aload_n hx hb d_M_character_8 rfl (lv_at hl 0 rfl) ?_
    refine va_get (D := (dC, dI)) (ci := 7) (v := .ref bLi) (C := R_M) (T := F_M) (N := 27) hx hb hts i_M hown hK hP 0 rfl rfl 1 (by decide) (hts _ wb_174) (fun _ h9 => h9) rfl d_M_character_9 ?_
    refine lv_iload_n hx hb d_M_character_12 rfl (lv_at hl 1 rfl) ?_
    obtain ⟨hin, hf⟩ := gi_some hf
    refine va_iald hx hb hK hP 1 0 rfl rfl hin d_M_character_13 ?_
    refine lv_iload_n hx hb d_M_character_14 rfl (lv_at hl 2 rfl) ?_
    refine lv_icmp_ne (tgt := 20) hx hb d_M_character_15 (by decide) (fun c_3 => ?_) (fun c_3 => ?_)
    · rw [if_neg c_3] at hf
      refine lv_aload_n hx hb d_M_character_20 rfl (lv_at hl 0 rfl) ?_
      refine lv_aload_n hx hb d_M_character_21 rfl (lv_at hl 0 rfl) ?_
      refine va_get (D := (dC, dI)) (ci := 7) (v := .ref bLi) (C := R_M) (T := F_M) (N := 27) hx hb hts i_M hown hK hP 0 rfl rfl 1 (by decide) (hts _ wb_174) (fun _ h9 => h9) rfl d_M_character_22 ?_
      refine lv_iload_n hx hb d_M_character_25 rfl (lv_at hl 1 rfl) ?_
      obtain ⟨hin, hf⟩ := gi_some hf
      refine va_iald hx hb hK hP 1 0 rfl rfl hin d_M_character_26 ?_
      refine va_put (D := (dC, dI)) (ci := 7) (v := .int (mli p0.toNatClampNeg)) (ty := .int) (C := R_M) (T := F_M) (N := 27) hx hb hts i_M ft_M tk_M n_M hown hK hP hD hS 0 rfl rfl 16 (by decide) (hts _ wb_192) (fun _ h9 => h9) rfl (by decide +kernel) rfl rfl (Nat.le_of_ble_eq_true rfl) d_M_character_27 (fun H locs hP hD hS => ?_)
      have hP : va_P (dC, dI) vwCl [(bM, .inr (7, [.int mth, .ref bLi, .int mle, .ref bLe, .ref bNa, .ref bNs, .ref bSt, .ref bCo, .int mnm, .int msp, .int mpl, .ref bKi, .ref bBe, .ref bEn, .ref bWo, .int mto, .int (mli p0.toNatClampNeg), .ref bSi, .ref bPl, .ref bMi, .ref bVa, .int mma, .int mod, .int mfa, .int mlp, .int mlm, .long mlv])), (bLi, .inl (cLim, 1024, .inl mli))] H := hP
      have hD : va_D A [(bM, .inr (7, [.int mth, .ref bLi, .int mle, .ref bLe, .ref bNa, .ref bNs, .ref bSt, .ref bCo, .int mnm, .int msp, .int mpl, .ref bKi, .ref bBe, .ref bEn, .ref bWo, .int mto, .int (mli p0.toNatClampNeg), .ref bSi, .ref bPl, .ref bMi, .ref bVa, .int mma, .int mod, .int mfa, .int mlp, .int mlm, .long mlv])), (bLi, .inl (cLim, 1024, .inl mli))] := hD
      refine lv_aload_n hx hb d_M_character_30 rfl (lv_at hl 0 rfl) ?_
      refine va_get (D := (dC, dI)) (ci := 7) (v := .int (mli p0.toNatClampNeg)) (C := R_M) (T := F_M) (N := 27) hx hb hts i_M hown hK hP 0 rfl rfl 16 (by decide) (hts _ wb_192) (fun _ h9 => h9) rfl d_M_character_31 ?_
      refine lv_bipush (v := (92 : Int32)) hx hb d_M_character_34 (by decide) ?_
      refine lv_icmp_eq (tgt := 43) hx hb d_M_character_36 (by decide) (fun c_4 => ?_) (fun c_4 => ?_)
      · rw [if_pos c_4] at hf
        refine lv_aload_n hx hb d_M_character_43 rfl (lv_at hl 0 rfl) ?_
        refine lv_iload_n hx hb d_M_character_44 rfl (lv_at hl 1 rfl) ?_
        refine lv_iconst (v := (1 : Int32)) hx hb d_M_character_45 (by decide) ?_
        refine lv_iadd hx hb d_M_character_46 ?_
        obtain ⟨o_5, hM_5, hf⟩ := bd_some hf
        refine cr_i (va_runV (As := [.int (p0 + (1 : Int32))]) (rest := []) ⟨hx, hb, hml, hown, hts⟩ (c_M_isPlain l dC dI bM bLi bLe bNa bNs bSt bCo bKi bBe bEn bWo bSi bPl bMi bVa cLim H.size mth mle mnm msp mpl mto (mli p0.toNatClampNeg) mma mod mfa mlp mlm mlv mli (p0 + (1 : Int32)) o_5 hM_5) (cwV 1 hts (gwV wb_188 wb_190 wb_191 wb_179 wb_189) rfl rfl rfl (by decide +kernel) ⟨Nat.le_of_ble_eq_true rfl, Nat.le_of_ble_eq_true rfl⟩) (pr_V (hP.sub [0, 1] rfl) (hD.sub [0, 1] (by decide) rfl) hK hN [0] rfl (ci := 7) rfl rfl rfl) rfl rfl hl.1 rfl (lv_room (Nat.le_of_ble_eq_true rfl)) d_M_character_47 ⟨Nat.zero_le _, Nat.zero_le _⟩) hP hD hS hA (in_of [0, 1] rfl) (fun r_5 H locs hw hP hS => ?_)
        obtain ⟨hw, hz_5⟩ := hw
        subst r_5
        refine lv_if_ne (tgt := 55) hx hb d_M_character_50 (by decide) (fun c_6 => ?_) (fun c_6 => ?_)
        · rw [if_neg c_6] at hf
          refine lv_aload_n hx hb d_M_character_55 rfl (lv_at hl 0 rfl) ?_
          refine va_get (D := (dC, dI)) (ci := 7) (v := .ref bLi) (C := R_M) (T := F_M) (N := 27) hx hb hts i_M hown hK hP 0 rfl rfl 1 (by decide) (hts _ wb_174) (fun _ h9 => h9) rfl d_M_character_56 ?_
          refine lv_iload_n hx hb d_M_character_59 rfl (lv_at hl 1 rfl) ?_
          refine lv_iconst (v := (1 : Int32)) hx hb d_M_character_60 (by decide) ?_
          refine lv_iadd hx hb d_M_character_61 ?_
          obtain ⟨hin, hf⟩ := gi_some hf
          refine va_iald hx hb hK hP 1 0 rfl rfl hin d_M_character_62 ?_
          refine lv_istore_n (lv' := [(3, .int (mli (p0 + (1 : Int32)).toNatClampNeg)), (0, .ref bM), (1, .int p0), (2, .int p1)]) hx hb d_M_character_63 rfl hl (by decide) rfl (fun ls hl => ?_)
          refine lv_aload_n hx hb d_M_character_64 rfl (lv_at hl 1 rfl) ?_
          refine lv_iload_n hx hb d_M_character_65 rfl (lv_at hl 0 rfl) ?_
          refine lv_bipush (v := (110 : Int32)) hx hb d_M_character_66 (by decide) ?_
          refine lv_icmp_ne (tgt := 76) hx hb d_M_character_68 (by decide) (fun c_7 => ?_) (fun c_7 => ?_)
          · rw [if_neg c_7] at hf
            refine lv_iload_n hx hb d_M_character_76 rfl (lv_at hl 0 rfl) ?_
            refine lv_bipush (v := (116 : Int32)) hx hb d_M_character_77 (by decide) ?_
            refine lv_icmp_ne (tgt := 87) hx hb d_M_character_79 (by decide) (fun c_8 => ?_) (fun c_8 => ?_)
            · rw [if_neg c_8] at hf
              refine lv_iload_n hx hb d_M_character_87 rfl (lv_at hl 0 rfl) ?_
              refine lv_bipush (v := (48 : Int32)) hx hb d_M_character_88 (by decide) ?_
              refine lv_icmp_ne (tgt := 97) hx hb d_M_character_90 (by decide) (fun c_9 => ?_) (fun c_9 => ?_)
              · rw [if_neg c_9] at hf
                refine lv_iload_n hx hb d_M_character_97 rfl (lv_at hl 0 rfl) ?_
                refine va_put (D := (dC, dI)) (ci := 7) (v := .int (mli (p0 + (1 : Int32)).toNatClampNeg)) (ty := .int) (C := R_M) (T := F_M) (N := 27) hx hb hts i_M ft_M tk_M n_M hown hK hP hD hS 0 rfl rfl 16 (by decide) (hts _ wb_192) (fun _ h9 => h9) rfl (by decide +kernel) rfl rfl (Nat.le_of_ble_eq_true rfl) d_M_character_98 (fun H locs hP hD hS => ?_)
                have hP : va_P (dC, dI) vwCl [(bM, .inr (7, [.int mth, .ref bLi, .int mle, .ref bLe, .ref bNa, .ref bNs, .ref bSt, .ref bCo, .int mnm, .int msp, .int mpl, .ref bKi, .ref bBe, .ref bEn, .ref bWo, .int mto, .int (mli (p0 + (1 : Int32)).toNatClampNeg), .ref bSi, .ref bPl, .ref bMi, .ref bVa, .int mma, .int mod, .int mfa, .int mlp, .int mlm, .long mlv])), (bLi, .inl (cLim, 1024, .inl mli))] H := hP
                have hD : va_D A [(bM, .inr (7, [.int mth, .ref bLi, .int mle, .ref bLe, .ref bNa, .ref bNs, .ref bSt, .ref bCo, .int mnm, .int msp, .int mpl, .ref bKi, .ref bBe, .ref bEn, .ref bWo, .int mto, .int (mli (p0 + (1 : Int32)).toNatClampNeg), .ref bSi, .ref bPl, .ref bMi, .ref bVa, .int mma, .int mod, .int mfa, .int mlp, .int mlm, .long mlv])), (bLi, .inl (cLim, 1024, .inl mli))] := hD
                refine lv_iload_n hx hb d_M_character_101 rfl (lv_at hl 2 rfl) ?_
                refine lv_iconst (v := (2 : Int32)) hx hb d_M_character_102 (by decide) ?_
                refine lv_iadd hx hb d_M_character_103 ?_
                have ho := Option.some.inj hf
                subst o
                have hP9 := hP.sub (ws' := [(bM, .inr (7, [.int mth, .ref bLi, .int mle, .ref bLe, .ref bNa, .ref bNs, .ref bSt, .ref bCo, .int mnm, .int msp, .int mpl, .ref bKi, .ref bBe, .ref bEn, .ref bWo, .int mto, .int (mli (p0 + (1 : Int32)).toNatClampNeg), .ref bSi, .ref bPl, .ref bMi, .ref bVa, .int mma, .int mod, .int mfa, .int mlp, .int mlm, .long mlv])), (bLi, .inl (cLim, 1024, .inl mli))]) [0, 1] rfl
                have hD9 := hD.sub (ws' := [(bM, .inr (7, [.int mth, .ref bLi, .int mle, .ref bLe, .ref bNa, .ref bNs, .ref bSt, .ref bCo, .int mnm, .int msp, .int mpl, .ref bKi, .ref bBe, .ref bEn, .ref bWo, .int mto, .int (mli (p0 + (1 : Int32)).toNatClampNeg), .ref bSi, .ref bPl, .ref bMi, .ref bVa, .int mma, .int mod, .int mfa, .int mlp, .int mlm, .long mlv])), (bLi, .inl (cLim, 1024, .inl mli))]) [0, 1] (by decide) rfl
                exact W.iret (v := p0 + (2 : Int32)) hx hb hr (fun t ht hW => ⟨⟨p0 + (2 : Int32), (), rfl, rfl, by rw [ht]; exact hP9, va_K.moved hW.alike hK, hD9⟩, hS.F ht⟩) hS.2.2 d_M_character_104
              · rw [if_pos c_9] at hf
                refine lv_iconst (v := (0 : Int32)) hx hb d_M_character_93 (by decide) ?_
                refine lv_goto (tgt := 98) hx hb d_M_character_94 (by decide) ?_
                refine va_put (D := (dC, dI)) (ci := 7) (v := .int (0 : Int32)) (ty := .int) (C := R_M) (T := F_M) (N := 27) hx hb hts i_M ft_M tk_M n_M hown hK hP hD hS 0 rfl rfl 16 (by decide) (hts _ wb_192) (fun _ h9 => h9) rfl (by decide +kernel) rfl rfl (Nat.le_of_ble_eq_true rfl) d_M_character_98 (fun H locs hP hD hS => ?_)
                have hP : va_P (dC, dI) vwCl [(bM, .inr (7, [.int mth, .ref bLi, .int mle, .ref bLe, .ref bNa, .ref bNs, .ref bSt, .ref bCo, .int mnm, .int msp, .int mpl, .ref bKi, .ref bBe, .ref bEn, .ref bWo, .int mto, .int (0 : Int32), .ref bSi, .ref bPl, .ref bMi, .ref bVa, .int mma, .int mod, .int mfa, .int mlp, .int mlm, .long mlv])), (bLi, .inl (cLim, 1024, .inl mli))] H := hP
                have hD : va_D A [(bM, .inr (7, [.int mth, .ref bLi, .int mle, .ref bLe, .ref bNa, .ref bNs, .ref bSt, .ref bCo, .int mnm, .int msp, .int mpl, .ref bKi, .ref bBe, .ref bEn, .ref bWo, .int mto, .int (0 : Int32), .ref bSi, .ref bPl, .ref bMi, .ref bVa, .int mma, .int mod, .int mfa, .int mlp, .int mlm, .long mlv])), (bLi, .inl (cLim, 1024, .inl mli))] := hD
                refine lv_iload_n hx hb d_M_character_101 rfl (lv_at hl 2 rfl) ?_
                refine lv_iconst (v := (2 : Int32)) hx hb d_M_character_102 (by decide) ?_
                refine lv_iadd hx hb d_M_character_103 ?_
                have ho := Option.some.inj hf
                subst o
                have hP9 := hP.sub (ws' := [(bM, .inr (7, [.int mth, .ref bLi, .int mle, .ref bLe, .ref bNa, .ref bNs, .ref bSt, .ref bCo, .int mnm, .int msp, .int mpl, .ref bKi, .ref bBe, .ref bEn, .ref bWo, .int mto, .int (0 : Int32), .ref bSi, .ref bPl, .ref bMi, .ref bVa, .int mma, .int mod, .int mfa, .int mlp, .int mlm, .long mlv])), (bLi, .inl (cLim, 1024, .inl mli))]) [0, 1] rfl
                have hD9 := hD.sub (ws' := [(bM, .inr (7, [.int mth, .ref bLi, .int mle, .ref bLe, .ref bNa, .ref bNs, .ref bSt, .ref bCo, .int mnm, .int msp, .int mpl, .ref bKi, .ref bBe, .ref bEn, .ref bWo, .int mto, .int (0 : Int32), .ref bSi, .ref bPl, .ref bMi, .ref bVa, .int mma, .int mod, .int mfa, .int mlp, .int mlm, .long mlv])), (bLi, .inl (cLim, 1024, .inl mli))]) [0, 1] (by decide) rfl
                exact W.iret (v := p0 + (2 : Int32)) hx hb hr (fun t ht hW => ⟨⟨p0 + (2 : Int32), (), rfl, rfl, by rw [ht]; exact hP9, va_K.moved hW.alike hK, hD9⟩, hS.F ht⟩) hS.2.2 d_M_character_104
            · rw [if_pos c_8] at hf
              refine lv_bipush (v := (9 : Int32)) hx hb d_M_character_82 (by decide) ?_
              refine lv_goto (tgt := 98) hx hb d_M_character_84 (by decide) ?_
              refine va_put (D := (dC, dI)) (ci := 7) (v := .int (9 : Int32)) (ty := .int) (C := R_M) (T := F_M) (N := 27) hx hb hts i_M ft_M tk_M n_M hown hK hP hD hS 0 rfl rfl 16 (by decide) (hts _ wb_192) (fun _ h9 => h9) rfl (by decide +kernel) rfl rfl (Nat.le_of_ble_eq_true rfl) d_M_character_98 (fun H locs hP hD hS => ?_)
              have hP : va_P (dC, dI) vwCl [(bM, .inr (7, [.int mth, .ref bLi, .int mle, .ref bLe, .ref bNa, .ref bNs, .ref bSt, .ref bCo, .int mnm, .int msp, .int mpl, .ref bKi, .ref bBe, .ref bEn, .ref bWo, .int mto, .int (9 : Int32), .ref bSi, .ref bPl, .ref bMi, .ref bVa, .int mma, .int mod, .int mfa, .int mlp, .int mlm, .long mlv])), (bLi, .inl (cLim, 1024, .inl mli))] H := hP
              have hD : va_D A [(bM, .inr (7, [.int mth, .ref bLi, .int mle, .ref bLe, .ref bNa, .ref bNs, .ref bSt, .ref bCo, .int mnm, .int msp, .int mpl, .ref bKi, .ref bBe, .ref bEn, .ref bWo, .int mto, .int (9 : Int32), .ref bSi, .ref bPl, .ref bMi, .ref bVa, .int mma, .int mod, .int mfa, .int mlp, .int mlm, .long mlv])), (bLi, .inl (cLim, 1024, .inl mli))] := hD
              refine lv_iload_n hx hb d_M_character_101 rfl (lv_at hl 2 rfl) ?_
              refine lv_iconst (v := (2 : Int32)) hx hb d_M_character_102 (by decide) ?_
              refine lv_iadd hx hb d_M_character_103 ?_
              have ho := Option.some.inj hf
              subst o
              have hP9 := hP.sub (ws' := [(bM, .inr (7, [.int mth, .ref bLi, .int mle, .ref bLe, .ref bNa, .ref bNs, .ref bSt, .ref bCo, .int mnm, .int msp, .int mpl, .ref bKi, .ref bBe, .ref bEn, .ref bWo, .int mto, .int (9 : Int32), .ref bSi, .ref bPl, .ref bMi, .ref bVa, .int mma, .int mod, .int mfa, .int mlp, .int mlm, .long mlv])), (bLi, .inl (cLim, 1024, .inl mli))]) [0, 1] rfl
              have hD9 := hD.sub (ws' := [(bM, .inr (7, [.int mth, .ref bLi, .int mle, .ref bLe, .ref bNa, .ref bNs, .ref bSt, .ref bCo, .int mnm, .int msp, .int mpl, .ref bKi, .ref bBe, .ref bEn, .ref bWo, .int mto, .int (9 : Int32), .ref bSi, .ref bPl, .ref bMi, .ref bVa, .int mma, .int mod, .int mfa, .int mlp, .int mlm, .long mlv])), (bLi, .inl (cLim, 1024, .inl mli))]) [0, 1] (by decide) rfl
              exact W.iret (v := p0 + (2 : Int32)) hx hb hr (fun t ht hW => ⟨⟨p0 + (2 : Int32), (), rfl, rfl, by rw [ht]; exact hP9, va_K.moved hW.alike hK, hD9⟩, hS.F ht⟩) hS.2.2 d_M_character_104
          · rw [if_pos c_7] at hf
            refine lv_bipush (v := (10 : Int32)) hx hb d_M_character_71 (by decide) ?_
            refine lv_goto (tgt := 98) hx hb d_M_character_73 (by decide) ?_
            refine va_put (D := (dC, dI)) (ci := 7) (v := .int (10 : Int32)) (ty := .int) (C := R_M) (T := F_M) (N := 27) hx hb hts i_M ft_M tk_M n_M hown hK hP hD hS 0 rfl rfl 16 (by decide) (hts _ wb_192) (fun _ h9 => h9) rfl (by decide +kernel) rfl rfl (Nat.le_of_ble_eq_true rfl) d_M_character_98 (fun H locs hP hD hS => ?_)
            have hP : va_P (dC, dI) vwCl [(bM, .inr (7, [.int mth, .ref bLi, .int mle, .ref bLe, .ref bNa, .ref bNs, .ref bSt, .ref bCo, .int mnm, .int msp, .int mpl, .ref bKi, .ref bBe, .ref bEn, .ref bWo, .int mto, .int (10 : Int32), .ref bSi, .ref bPl, .ref bMi, .ref bVa, .int mma, .int mod, .int mfa, .int mlp, .int mlm, .long mlv])), (bLi, .inl (cLim, 1024, .inl mli))] H := hP
            have hD : va_D A [(bM, .inr (7, [.int mth, .ref bLi, .int mle, .ref bLe, .ref bNa, .ref bNs, .ref bSt, .ref bCo, .int mnm, .int msp, .int mpl, .ref bKi, .ref bBe, .ref bEn, .ref bWo, .int mto, .int (10 : Int32), .ref bSi, .ref bPl, .ref bMi, .ref bVa, .int mma, .int mod, .int mfa, .int mlp, .int mlm, .long mlv])), (bLi, .inl (cLim, 1024, .inl mli))] := hD
            refine lv_iload_n hx hb d_M_character_101 rfl (lv_at hl 2 rfl) ?_
            refine lv_iconst (v := (2 : Int32)) hx hb d_M_character_102 (by decide) ?_
            refine lv_iadd hx hb d_M_character_103 ?_
            have ho := Option.some.inj hf
            subst o
            have hP9 := hP.sub (ws' := [(bM, .inr (7, [.int mth, .ref bLi, .int mle, .ref bLe, .ref bNa, .ref bNs, .ref bSt, .ref bCo, .int mnm, .int msp, .int mpl, .ref bKi, .ref bBe, .ref bEn, .ref bWo, .int mto, .int (10 : Int32), .ref bSi, .ref bPl, .ref bMi, .ref bVa, .int mma, .int mod, .int mfa, .int mlp, .int mlm, .long mlv])), (bLi, .inl (cLim, 1024, .inl mli))]) [0, 1] rfl
            have hD9 := hD.sub (ws' := [(bM, .inr (7, [.int mth, .ref bLi, .int mle, .ref bLe, .ref bNa, .ref bNs, .ref bSt, .ref bCo, .int mnm, .int msp, .int mpl, .ref bKi, .ref bBe, .ref bEn, .ref bWo, .int mto, .int (10 : Int32), .ref bSi, .ref bPl, .ref bMi, .ref bVa, .int mma, .int mod, .int mfa, .int mlp, .int mlm, .long mlv])), (bLi, .inl (cLim, 1024, .inl mli))]) [0, 1] (by decide) rfl
            exact W.iret (v := p0 + (2 : Int32)) hx hb hr (fun t ht hW => ⟨⟨p0 + (2 : Int32), (), rfl, rfl, by rw [ht]; exact hP9, va_K.moved hW.alike hK, hD9⟩, hS.F ht⟩) hS.2.2 d_M_character_104
        · rw [if_pos c_6] at hf
          refine lv_iconst (v := (-1 : Int32)) hx hb d_M_character_53 (by decide) ?_
          have ho := Option.some.inj hf
          subst o
          have hP9 := hP.sub (ws' := [(bM, .inr (7, [.int mth, .ref bLi, .int mle, .ref bLe, .ref bNa, .ref bNs, .ref bSt, .ref bCo, .int mnm, .int msp, .int mpl, .ref bKi, .ref bBe, .ref bEn, .ref bWo, .int mto, .int (mli p0.toNatClampNeg), .ref bSi, .ref bPl, .ref bMi, .ref bVa, .int mma, .int mod, .int mfa, .int mlp, .int mlm, .long mlv])), (bLi, .inl (cLim, 1024, .inl mli))]) [0, 1] rfl
          have hD9 := hD.sub (ws' := [(bM, .inr (7, [.int mth, .ref bLi, .int mle, .ref bLe, .ref bNa, .ref bNs, .ref bSt, .ref bCo, .int mnm, .int msp, .int mpl, .ref bKi, .ref bBe, .ref bEn, .ref bWo, .int mto, .int (mli p0.toNatClampNeg), .ref bSi, .ref bPl, .ref bMi, .ref bVa, .int mma, .int mod, .int mfa, .int mlp, .int mlm, .long mlv])), (bLi, .inl (cLim, 1024, .inl mli))]) [0, 1] (by decide) rfl
          exact W.iret (v := (-1 : Int32)) hx hb hr (fun t ht hW => ⟨⟨(-1 : Int32), (), rfl, rfl, by rw [ht]; exact hP9, va_K.moved hW.alike hK, hD9⟩, hS.F ht⟩) hS.2.2 d_M_character_54
      · rw [if_neg c_4] at hf
        refine lv_iload_n hx hb d_M_character_39 rfl (lv_at hl 1 rfl) ?_
        refine lv_iconst (v := (1 : Int32)) hx hb d_M_character_40 (by decide) ?_
        refine lv_iadd hx hb d_M_character_41 ?_
        have ho := Option.some.inj hf
        subst o
        have hP9 := hP.sub (ws' := [(bM, .inr (7, [.int mth, .ref bLi, .int mle, .ref bLe, .ref bNa, .ref bNs, .ref bSt, .ref bCo, .int mnm, .int msp, .int mpl, .ref bKi, .ref bBe, .ref bEn, .ref bWo, .int mto, .int (mli p0.toNatClampNeg), .ref bSi, .ref bPl, .ref bMi, .ref bVa, .int mma, .int mod, .int mfa, .int mlp, .int mlm, .long mlv])), (bLi, .inl (cLim, 1024, .inl mli))]) [0, 1] rfl
        have hD9 := hD.sub (ws' := [(bM, .inr (7, [.int mth, .ref bLi, .int mle, .ref bLe, .ref bNa, .ref bNs, .ref bSt, .ref bCo, .int mnm, .int msp, .int mpl, .ref bKi, .ref bBe, .ref bEn, .ref bWo, .int mto, .int (mli p0.toNatClampNeg), .ref bSi, .ref bPl, .ref bMi, .ref bVa, .int mma, .int mod, .int mfa, .int mlp, .int mlm, .long mlv])), (bLi, .inl (cLim, 1024, .inl mli))]) [0, 1] (by decide) rfl
        exact W.iret (v := p0 + (1 : Int32)) hx hb hr (fun t ht hW => ⟨⟨p0 + (1 : Int32), (), rfl, rfl, by rw [ht]; exact hP9, va_K.moved hW.alike hK, hD9⟩, hS.F ht⟩) hS.2.2 d_M_character_42
    · rw [if_pos c_3] at hf
      refine lv_iconst (v := (-1 : Int32)) hx hb d_M_character_18 (by decide) ?_
      have ho := Option.some.inj hf
      subst o
      have hP9 := hP.sub (ws' := [(bM, .inr (7, [.int mth, .ref bLi, .int mle, .ref bLe, .ref bNa, .ref bNs, .ref bSt, .ref bCo, .int mnm, .int msp, .int mpl, .ref bKi, .ref bBe, .ref bEn, .ref bWo, .int mto, .int mlr, .ref bSi, .ref bPl, .ref bMi, .ref bVa, .int mma, .int mod, .int mfa, .int mlp, .int mlm, .long mlv])), (bLi, .inl (cLim, 1024, .inl mli))]) [0, 1] rfl
      have hD9 := hD.sub (ws' := [(bM, .inr (7, [.int mth, .ref bLi, .int mle, .ref bLe, .ref bNa, .ref bNs, .ref bSt, .ref bCo, .int mnm, .int msp, .int mpl, .ref bKi, .ref bBe, .ref bEn, .ref bWo, .int mto, .int mlr, .ref bSi, .ref bPl, .ref bMi, .ref bVa, .int mma, .int mod, .int mfa, .int mlp, .int mlm, .long mlv])), (bLi, .inl (cLim, 1024, .inl mli))]) [0, 1] (by decide) rfl
      exact W.iret (v := (-1 : Int32)) hx hb hr (fun t ht hW => ⟨⟨(-1 : Int32), (), rfl, rfl, by rw [ht]; exact hP9, va_K.moved hW.alike hK, hD9⟩, hS.F ht⟩) hS.2.2 d_M_character_19
