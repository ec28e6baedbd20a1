theorem d_W_law_0 : decode code 0 = .ok (.new 8, 3) := by decide +kernel
theorem d_W_law_3 : decode code 3 = .ok (.dup, 1) := by decide +kernel
theorem d_W_law_4 : decode code 4 = .ok (.invokespecial 15, 3) := by decide +kernel
theorem d_W_law_7 : decode code 7 = .ok (.astore_n 1, 1) := by decide +kernel
theorem d_W_law_8 : decode code 8 = .ok (.new 16, 3) := by decide +kernel
theorem d_W_law_11 : decode code 11 = .ok (.dup, 1) := by decide +kernel
theorem d_W_law_12 : decode code 12 = .ok (.invokespecial 18, 3) := by decide +kernel
theorem d_W_law_15 : decode code 15 = .ok (.astore_n 2, 1) := by decide +kernel
theorem d_W_law_16 : decode code 16 = .ok (.iconst 1, 1) := by decide +kernel
theorem d_W_law_17 : decode code 17 = .ok (.newarray .long, 2) := by decide +kernel
theorem d_W_law_19 : decode code 19 = .ok (.astore_n 3, 1) := by decide +kernel
theorem d_W_law_20 : decode code 20 = .ok (.iconst 0, 1) := by decide +kernel
theorem d_W_law_21 : decode code 21 = .ok (.istore 4, 2) := by decide +kernel
theorem d_W_law_23 : decode code 23 = .ok (.iload 4, 2) := by decide +kernel
theorem d_W_law_25 : decode code 25 = .ok (.aload_n 0, 1) := by decide +kernel
theorem d_W_law_26 : decode code 26 = .ok (.arraylength, 1) := by decide +kernel
theorem d_W_law_27 : decode code 27 = .ok (.iconst 4, 1) := by decide +kernel
theorem d_W_law_28 : decode code 28 = .ok (.isub, 1) := by decide +kernel
theorem d_W_law_29 : decode code 29 = .ok (.if_icmp .gt 378, 3) := by decide +kernel
theorem d_W_law_32 : decode code 32 = .ok (.aload_n 0, 1) := by decide +kernel
theorem d_W_law_33 : decode code 33 = .ok (.iload 4, 2) := by decide +kernel
theorem d_W_law_35 : decode code 35 = .ok (.iaload, 1) := by decide +kernel
theorem d_W_law_36 : decode code 36 = .ok (.bipush 15, 2) := by decide +kernel
theorem d_W_law_38 : decode code 38 = .ok (.iand, 1) := by decide +kernel
theorem d_W_law_39 : decode code 39 = .ok (.tableswitch 362 0 8 #[49, 118, 131, 144, 201, 273, 286, 300, 325], 49) := by decide +kernel
theorem d_W_law_88 : decode code 88 = .ok (.aload_n 1, 1) := by decide +kernel
theorem d_W_law_89 : decode code 89 = .ok (.aload_n 0, 1) := by decide +kernel
theorem d_W_law_90 : decode code 90 = .ok (.iload 4, 2) := by decide +kernel
theorem d_W_law_92 : decode code 92 = .ok (.iconst 1, 1) := by decide +kernel
theorem d_W_law_93 : decode code 93 = .ok (.iadd, 1) := by decide +kernel
theorem d_W_law_94 : decode code 94 = .ok (.iaload, 1) := by decide +kernel
theorem d_W_law_95 : decode code 95 = .ok (.i2l, 1) := by decide +kernel
theorem d_W_law_96 : decode code 96 = .ok (.bipush 32, 2) := by decide +kernel
theorem d_W_law_98 : decode code 98 = .ok (.lshl, 1) := by decide +kernel
theorem d_W_law_99 : decode code 99 = .ok (.aload_n 0, 1) := by decide +kernel
theorem d_W_law_100 : decode code 100 = .ok (.iload 4, 2) := by decide +kernel
theorem d_W_law_102 : decode code 102 = .ok (.iconst 2, 1) := by decide +kernel
theorem d_W_law_103 : decode code 103 = .ok (.iadd, 1) := by decide +kernel
theorem d_W_law_104 : decode code 104 = .ok (.iaload, 1) := by decide +kernel
theorem d_W_law_105 : decode code 105 = .ok (.i2l, 1) := by decide +kernel
theorem d_W_law_106 : decode code 106 = .ok (.ldc2_w 19, 3) := by decide +kernel
theorem d_W_law_109 : decode code 109 = .ok (.land, 1) := by decide +kernel
theorem d_W_law_110 : decode code 110 = .ok (.lor, 1) := by decide +kernel
theorem d_W_law_111 : decode code 111 = .ok (.aload_n 0, 1) := by decide +kernel
theorem d_W_law_112 : decode code 112 = .ok (.iload 4, 2) := by decide +kernel
theorem d_W_law_114 : decode code 114 = .ok (.iconst 3, 1) := by decide +kernel
theorem d_W_law_115 : decode code 115 = .ok (.iadd, 1) := by decide +kernel
theorem d_W_law_116 : decode code 116 = .ok (.iaload, 1) := by decide +kernel
theorem d_W_law_117 : decode code 117 = .ok (.invokevirtual 21, 3) := by decide +kernel
theorem d_W_law_120 : decode code 120 = .ok (.aload_n 2, 1) := by decide +kernel
theorem d_W_law_121 : decode code 121 = .ok (.aload_n 0, 1) := by decide +kernel
theorem d_W_law_122 : decode code 122 = .ok (.iload 4, 2) := by decide +kernel
theorem d_W_law_124 : decode code 124 = .ok (.iconst 1, 1) := by decide +kernel
theorem d_W_law_125 : decode code 125 = .ok (.iadd, 1) := by decide +kernel
theorem d_W_law_126 : decode code 126 = .ok (.iaload, 1) := by decide +kernel
theorem d_W_law_127 : decode code 127 = .ok (.i2l, 1) := by decide +kernel
theorem d_W_law_128 : decode code 128 = .ok (.bipush 32, 2) := by decide +kernel
theorem d_W_law_130 : decode code 130 = .ok (.lshl, 1) := by decide +kernel
theorem d_W_law_131 : decode code 131 = .ok (.aload_n 0, 1) := by decide +kernel
theorem d_W_law_132 : decode code 132 = .ok (.iload 4, 2) := by decide +kernel
