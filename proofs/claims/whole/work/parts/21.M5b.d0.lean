theorem d_M_join_0 : decode b_M_join 0 = .ok (.aload_n 0, 1) := by decide +kernel
theorem d_M_join_1 : decode b_M_join 1 = .ok (.getfield 42, 3) := by decide +kernel
theorem d_M_join_4 : decode b_M_join 4 = .ok (.iload_n 1, 1) := by decide +kernel
theorem d_M_join_5 : decode b_M_join 5 = .ok (.iaload, 1) := by decide +kernel
theorem d_M_join_6 : decode b_M_join 6 = .ok (.istore_n 2, 1) := by decide +kernel
theorem d_M_join_7 : decode b_M_join 7 = .ok (.iload_n 1, 1) := by decide +kernel
theorem d_M_join_8 : decode b_M_join 8 = .ok (.iconst 1, 1) := by decide +kernel
theorem d_M_join_9 : decode b_M_join 9 = .ok (.isub, 1) := by decide +kernel
theorem d_M_join_10 : decode b_M_join 10 = .ok (.istore_n 3, 1) := by decide +kernel
theorem d_M_join_11 : decode b_M_join 11 = .ok (.iload_n 1, 1) := by decide +kernel
theorem d_M_join_12 : decode b_M_join 12 = .ok (.iconst 1, 1) := by decide +kernel
theorem d_M_join_13 : decode b_M_join 13 = .ok (.iadd, 1) := by decide +kernel
theorem d_M_join_14 : decode b_M_join 14 = .ok (.istore 4, 2) := by decide +kernel
theorem d_M_join_16 : decode b_M_join 16 = .ok (.aload_n 0, 1) := by decide +kernel
theorem d_M_join_17 : decode b_M_join 17 = .ok (.iload_n 3, 1) := by decide +kernel
theorem d_M_join_18 : decode b_M_join 18 = .ok (.invokevirtual 160, 3) := by decide +kernel
theorem d_M_join_21 : decode b_M_join 21 = .ok (.istore 5, 2) := by decide +kernel
theorem d_M_join_23 : decode b_M_join 23 = .ok (.aload_n 0, 1) := by decide +kernel
theorem d_M_join_24 : decode b_M_join 24 = .ok (.iload 4, 2) := by decide +kernel
theorem d_M_join_26 : decode b_M_join 26 = .ok (.invokevirtual 160, 3) := by decide +kernel
theorem d_M_join_29 : decode b_M_join 29 = .ok (.istore 6, 2) := by decide +kernel
theorem d_M_join_31 : decode b_M_join 31 = .ok (.aload_n 0, 1) := by decide +kernel
theorem d_M_join_32 : decode b_M_join 32 = .ok (.getfield 51, 3) := by decide +kernel
theorem d_M_join_35 : decode b_M_join 35 = .ok (.iload_n 3, 1) := by decide +kernel
theorem d_M_join_36 : decode b_M_join 36 = .ok (.laload, 1) := by decide +kernel
theorem d_M_join_37 : decode b_M_join 37 = .ok (.lstore 7, 2) := by decide +kernel
theorem d_M_join_39 : decode b_M_join 39 = .ok (.aload_n 0, 1) := by decide +kernel
theorem d_M_join_40 : decode b_M_join 40 = .ok (.getfield 51, 3) := by decide +kernel
theorem d_M_join_43 : decode b_M_join 43 = .ok (.iload 4, 2) := by decide +kernel
theorem d_M_join_45 : decode b_M_join 45 = .ok (.laload, 1) := by decide +kernel
theorem d_M_join_46 : decode b_M_join 46 = .ok (.lstore 9, 2) := by decide +kernel
theorem d_M_join_48 : decode b_M_join 48 = .ok (.iload_n 2, 1) := by decide +kernel
theorem d_M_join_49 : decode b_M_join 49 = .ok (.bipush 43, 2) := by decide +kernel
theorem d_M_join_51 : decode b_M_join 51 = .ok (.if_icmp .ne 97, 3) := by decide +kernel
theorem d_M_join_54 : decode b_M_join 54 = .ok (.aload_n 0, 1) := by decide +kernel
theorem d_M_join_55 : decode b_M_join 55 = .ok (.aload_n 0, 1) := by decide +kernel
theorem d_M_join_56 : decode b_M_join 56 = .ok (.getfield 156, 3) := by decide +kernel
theorem d_M_join_59 : decode b_M_join 59 = .ok (.ifCond .ne 13, 3) := by decide +kernel
theorem d_M_join_62 : decode b_M_join 62 = .ok (.iload 5, 2) := by decide +kernel
theorem d_M_join_64 : decode b_M_join 64 = .ok (.ifCond .ne 12, 3) := by decide +kernel
theorem d_M_join_67 : decode b_M_join 67 = .ok (.iload 6, 2) := by decide +kernel
theorem d_M_join_69 : decode b_M_join 69 = .ok (.ifCond .ne 7, 3) := by decide +kernel
theorem d_M_join_72 : decode b_M_join 72 = .ok (.iconst 1, 1) := by decide +kernel
theorem d_M_join_73 : decode b_M_join 73 = .ok (.goto 4, 3) := by decide +kernel
theorem d_M_join_76 : decode b_M_join 76 = .ok (.iconst 0, 1) := by decide +kernel
theorem d_M_join_77 : decode b_M_join 77 = .ok (.putfield 156, 3) := by decide +kernel
theorem d_M_join_80 : decode b_M_join 80 = .ok (.aload_n 0, 1) := by decide +kernel
theorem d_M_join_81 : decode b_M_join 81 = .ok (.getfield 45, 3) := by decide +kernel
theorem d_M_join_84 : decode b_M_join 84 = .ok (.iload_n 3, 1) := by decide +kernel
theorem d_M_join_85 : decode b_M_join 85 = .ok (.iload 5, 2) := by decide +kernel
theorem d_M_join_87 : decode b_M_join 87 = .ok (.ifCond .eq 13, 3) := by decide +kernel
theorem d_M_join_90 : decode b_M_join 90 = .ok (.aload_n 0, 1) := by decide +kernel
theorem d_M_join_91 : decode b_M_join 91 = .ok (.getfield 45, 3) := by decide +kernel
theorem d_M_join_94 : decode b_M_join 94 = .ok (.iload 4, 2) := by decide +kernel
theorem d_M_join_96 : decode b_M_join 96 = .ok (.iaload, 1) := by decide +kernel
theorem d_M_join_97 : decode b_M_join 97 = .ok (.goto 9, 3) := by decide +kernel
theorem d_M_join_100 : decode b_M_join 100 = .ok (.aload_n 0, 1) := by decide +kernel
theorem d_M_join_101 : decode b_M_join 101 = .ok (.getfield 45, 3) := by decide +kernel
theorem d_M_join_104 : decode b_M_join 104 = .ok (.iload_n 3, 1) := by decide +kernel
theorem d_M_join_105 : decode b_M_join 105 = .ok (.iaload, 1) := by decide +kernel
