theorem d_M_join_106 : decode b_M_join 106 = .ok (.iastore, 1) := by decide +kernel
theorem d_M_join_107 : decode b_M_join 107 = .ok (.aload_n 0, 1) := by decide +kernel
theorem d_M_join_108 : decode b_M_join 108 = .ok (.getfield 48, 3) := by decide +kernel
theorem d_M_join_111 : decode b_M_join 111 = .ok (.iload_n 3, 1) := by decide +kernel
theorem d_M_join_112 : decode b_M_join 112 = .ok (.iload 5, 2) := by decide +kernel
theorem d_M_join_114 : decode b_M_join 114 = .ok (.ifCond .eq 13, 3) := by decide +kernel
theorem d_M_join_117 : decode b_M_join 117 = .ok (.aload_n 0, 1) := by decide +kernel
theorem d_M_join_118 : decode b_M_join 118 = .ok (.getfield 48, 3) := by decide +kernel
theorem d_M_join_121 : decode b_M_join 121 = .ok (.iload 4, 2) := by decide +kernel
theorem d_M_join_123 : decode b_M_join 123 = .ok (.iaload, 1) := by decide +kernel
theorem d_M_join_124 : decode b_M_join 124 = .ok (.goto 9, 3) := by decide +kernel
theorem d_M_join_127 : decode b_M_join 127 = .ok (.aload_n 0, 1) := by decide +kernel
theorem d_M_join_128 : decode b_M_join 128 = .ok (.getfield 48, 3) := by decide +kernel
theorem d_M_join_131 : decode b_M_join 131 = .ok (.iload_n 3, 1) := by decide +kernel
theorem d_M_join_132 : decode b_M_join 132 = .ok (.iaload, 1) := by decide +kernel
theorem d_M_join_133 : decode b_M_join 133 = .ok (.iastore, 1) := by decide +kernel
theorem d_M_join_134 : decode b_M_join 134 = .ok (.aload_n 0, 1) := by decide +kernel
theorem d_M_join_135 : decode b_M_join 135 = .ok (.getfield 51, 3) := by decide +kernel
theorem d_M_join_138 : decode b_M_join 138 = .ok (.iload_n 3, 1) := by decide +kernel
theorem d_M_join_139 : decode b_M_join 139 = .ok (.lload 7, 2) := by decide +kernel
theorem d_M_join_141 : decode b_M_join 141 = .ok (.lload 9, 2) := by decide +kernel
theorem d_M_join_143 : decode b_M_join 143 = .ok (.ladd, 1) := by decide +kernel
theorem d_M_join_144 : decode b_M_join 144 = .ok (.lastore, 1) := by decide +kernel
theorem d_M_join_145 : decode b_M_join 145 = .ok (.goto 288, 3) := by decide +kernel
theorem d_M_join_148 : decode b_M_join 148 = .ok (.iload_n 2, 1) := by decide +kernel
theorem d_M_join_149 : decode b_M_join 149 = .ok (.bipush 45, 2) := by decide +kernel
theorem d_M_join_151 : decode b_M_join 151 = .ok (.if_icmp .ne 91, 3) := by decide +kernel
theorem d_M_join_154 : decode b_M_join 154 = .ok (.aload_n 0, 1) := by decide +kernel
theorem d_M_join_155 : decode b_M_join 155 = .ok (.aload_n 0, 1) := by decide +kernel
theorem d_M_join_156 : decode b_M_join 156 = .ok (.getfield 156, 3) := by decide +kernel
theorem d_M_join_159 : decode b_M_join 159 = .ok (.ifCond .ne 34, 3) := by decide +kernel
theorem d_M_join_162 : decode b_M_join 162 = .ok (.iload 6, 2) := by decide +kernel
theorem d_M_join_164 : decode b_M_join 164 = .ok (.ifCond .ne 33, 3) := by decide +kernel
theorem d_M_join_167 : decode b_M_join 167 = .ok (.iload 5, 2) := by decide +kernel
theorem d_M_join_169 : decode b_M_join 169 = .ok (.ifCond .ne 24, 3) := by decide +kernel
theorem d_M_join_172 : decode b_M_join 172 = .ok (.aload_n 0, 1) := by decide +kernel
theorem d_M_join_173 : decode b_M_join 173 = .ok (.getfield 48, 3) := by decide +kernel
theorem d_M_join_176 : decode b_M_join 176 = .ok (.iload_n 3, 1) := by decide +kernel
theorem d_M_join_177 : decode b_M_join 177 = .ok (.iaload, 1) := by decide +kernel
theorem d_M_join_178 : decode b_M_join 178 = .ok (.iconst (-1), 1) := by decide +kernel
theorem d_M_join_179 : decode b_M_join 179 = .ok (.if_icmp .ne 14, 3) := by decide +kernel
theorem d_M_join_182 : decode b_M_join 182 = .ok (.aload_n 0, 1) := by decide +kernel
theorem d_M_join_183 : decode b_M_join 183 = .ok (.getfield 48, 3) := by decide +kernel
theorem d_M_join_186 : decode b_M_join 186 = .ok (.iload 4, 2) := by decide +kernel
theorem d_M_join_188 : decode b_M_join 188 = .ok (.iaload, 1) := by decide +kernel
theorem d_M_join_189 : decode b_M_join 189 = .ok (.iconst (-1), 1) := by decide +kernel
theorem d_M_join_190 : decode b_M_join 190 = .ok (.if_icmp .eq 7, 3) := by decide +kernel
theorem d_M_join_193 : decode b_M_join 193 = .ok (.iconst 1, 1) := by decide +kernel
theorem d_M_join_194 : decode b_M_join 194 = .ok (.goto 4, 3) := by decide +kernel
theorem d_M_join_197 : decode b_M_join 197 = .ok (.iconst 0, 1) := by decide +kernel
theorem d_M_join_198 : decode b_M_join 198 = .ok (.putfield 156, 3) := by decide +kernel
theorem d_M_join_201 : decode b_M_join 201 = .ok (.aload_n 0, 1) := by decide +kernel
theorem d_M_join_202 : decode b_M_join 202 = .ok (.getfield 48, 3) := by decide +kernel
theorem d_M_join_205 : decode b_M_join 205 = .ok (.iload_n 3, 1) := by decide +kernel
theorem d_M_join_206 : decode b_M_join 206 = .ok (.iload 6, 2) := by decide +kernel
theorem d_M_join_208 : decode b_M_join 208 = .ok (.ifCond .eq 12, 3) := by decide +kernel
theorem d_M_join_211 : decode b_M_join 211 = .ok (.aload_n 0, 1) := by decide +kernel
theorem d_M_join_212 : decode b_M_join 212 = .ok (.getfield 48, 3) := by decide +kernel
theorem d_M_join_215 : decode b_M_join 215 = .ok (.iload_n 3, 1) := by decide +kernel
theorem d_M_join_216 : decode b_M_join 216 = .ok (.iaload, 1) := by decide +kernel
