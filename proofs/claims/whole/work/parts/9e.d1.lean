theorem d_W_law_134 : decode code 134 = .ok (.iconst 2, 1) := by decide +kernel
theorem d_W_law_135 : decode code 135 = .ok (.iadd, 1) := by decide +kernel
theorem d_W_law_136 : decode code 136 = .ok (.iaload, 1) := by decide +kernel
theorem d_W_law_137 : decode code 137 = .ok (.i2l, 1) := by decide +kernel
theorem d_W_law_138 : decode code 138 = .ok (.ldc2_w 19, 3) := by decide +kernel
theorem d_W_law_141 : decode code 141 = .ok (.land, 1) := by decide +kernel
theorem d_W_law_142 : decode code 142 = .ok (.lor, 1) := by decide +kernel
theorem d_W_law_143 : decode code 143 = .ok (.aload_n 0, 1) := by decide +kernel
theorem d_W_law_144 : decode code 144 = .ok (.iload 4, 2) := by decide +kernel
theorem d_W_law_146 : decode code 146 = .ok (.iconst 3, 1) := by decide +kernel
theorem d_W_law_147 : decode code 147 = .ok (.iadd, 1) := by decide +kernel
theorem d_W_law_148 : decode code 148 = .ok (.iaload, 1) := by decide +kernel
theorem d_W_law_149 : decode code 149 = .ok (.invokevirtual 25, 3) := by decide +kernel
theorem d_W_law_152 : decode code 152 = .ok (.if_icmp .eq 249, 3) := by decide +kernel
theorem d_W_law_155 : decode code 155 = .ok (.iconst 0, 1) := by decide +kernel
theorem d_W_law_156 : decode code 156 = .ok (.ireturn, 1) := by decide +kernel
theorem d_W_law_157 : decode code 157 = .ok (.aload_n 1, 1) := by decide +kernel
theorem d_W_law_158 : decode code 158 = .ok (.invokevirtual 26, 3) := by decide +kernel
theorem d_W_law_161 : decode code 161 = .ok (.aload_n 2, 1) := by decide +kernel
theorem d_W_law_162 : decode code 162 = .ok (.invokevirtual 30, 3) := by decide +kernel
theorem d_W_law_165 : decode code 165 = .ok (.if_icmp .eq 236, 3) := by decide +kernel
theorem d_W_law_168 : decode code 168 = .ok (.iconst 0, 1) := by decide +kernel
theorem d_W_law_169 : decode code 169 = .ok (.ireturn, 1) := by decide +kernel
theorem d_W_law_170 : decode code 170 = .ok (.aload_n 1, 1) := by decide +kernel
theorem d_W_law_171 : decode code 171 = .ok (.invokevirtual 31, 3) := by decide +kernel
theorem d_W_law_174 : decode code 174 = .ok (.aload_n 2, 1) := by decide +kernel
theorem d_W_law_175 : decode code 175 = .ok (.invokevirtual 35, 3) := by decide +kernel
theorem d_W_law_178 : decode code 178 = .ok (.if_icmp .eq 223, 3) := by decide +kernel
theorem d_W_law_181 : decode code 181 = .ok (.iconst 0, 1) := by decide +kernel
theorem d_W_law_182 : decode code 182 = .ok (.ireturn, 1) := by decide +kernel
theorem d_W_law_183 : decode code 183 = .ok (.aload_n 1, 1) := by decide +kernel
theorem d_W_law_184 : decode code 184 = .ok (.aload_n 0, 1) := by decide +kernel
theorem d_W_law_185 : decode code 185 = .ok (.iload 4, 2) := by decide +kernel
theorem d_W_law_187 : decode code 187 = .ok (.iconst 1, 1) := by decide +kernel
theorem d_W_law_188 : decode code 188 = .ok (.iadd, 1) := by decide +kernel
theorem d_W_law_189 : decode code 189 = .ok (.iaload, 1) := by decide +kernel
theorem d_W_law_190 : decode code 190 = .ok (.i2l, 1) := by decide +kernel
theorem d_W_law_191 : decode code 191 = .ok (.bipush 32, 2) := by decide +kernel
theorem d_W_law_193 : decode code 193 = .ok (.lshl, 1) := by decide +kernel
theorem d_W_law_194 : decode code 194 = .ok (.aload_n 0, 1) := by decide +kernel
theorem d_W_law_195 : decode code 195 = .ok (.iload 4, 2) := by decide +kernel
theorem d_W_law_197 : decode code 197 = .ok (.iconst 2, 1) := by decide +kernel
theorem d_W_law_198 : decode code 198 = .ok (.iadd, 1) := by decide +kernel
theorem d_W_law_199 : decode code 199 = .ok (.iaload, 1) := by decide +kernel
theorem d_W_law_200 : decode code 200 = .ok (.i2l, 1) := by decide +kernel
theorem d_W_law_201 : decode code 201 = .ok (.ldc2_w 19, 3) := by decide +kernel
theorem d_W_law_204 : decode code 204 = .ok (.land, 1) := by decide +kernel
theorem d_W_law_205 : decode code 205 = .ok (.lor, 1) := by decide +kernel
theorem d_W_law_206 : decode code 206 = .ok (.invokevirtual 36, 3) := by decide +kernel
theorem d_W_law_209 : decode code 209 = .ok (.aload_n 2, 1) := by decide +kernel
theorem d_W_law_210 : decode code 210 = .ok (.aload_n 0, 1) := by decide +kernel
theorem d_W_law_211 : decode code 211 = .ok (.iload 4, 2) := by decide +kernel
theorem d_W_law_213 : decode code 213 = .ok (.iconst 1, 1) := by decide +kernel
theorem d_W_law_214 : decode code 214 = .ok (.iadd, 1) := by decide +kernel
theorem d_W_law_215 : decode code 215 = .ok (.iaload, 1) := by decide +kernel
theorem d_W_law_216 : decode code 216 = .ok (.i2l, 1) := by decide +kernel
theorem d_W_law_217 : decode code 217 = .ok (.bipush 32, 2) := by decide +kernel
theorem d_W_law_219 : decode code 219 = .ok (.lshl, 1) := by decide +kernel
theorem d_W_law_220 : decode code 220 = .ok (.aload_n 0, 1) := by decide +kernel
theorem d_W_law_221 : decode code 221 = .ok (.iload 4, 2) := by decide +kernel
