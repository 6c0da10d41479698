/-! The law's instructions. -/
theorem d_La_law_0 : decode b_La_law 0 = .ok (.new 7, 3) := by decide +kernel
theorem d_La_law_3 : decode b_La_law 3 = .ok (.dup, 1) := by decide +kernel
theorem d_La_law_4 : decode b_La_law 4 = .ok (.invokespecial 9, 3) := by decide +kernel
theorem d_La_law_7 : decode b_La_law 7 = .ok (.astore_n 1, 1) := by decide +kernel
theorem d_La_law_8 : decode b_La_law 8 = .ok (.new 10, 3) := by decide +kernel
theorem d_La_law_11 : decode b_La_law 11 = .ok (.dup, 1) := by decide +kernel
theorem d_La_law_12 : decode b_La_law 12 = .ok (.invokespecial 12, 3) := by decide +kernel
theorem d_La_law_15 : decode b_La_law 15 = .ok (.astore_n 2, 1) := by decide +kernel
theorem d_La_law_16 : decode b_La_law 16 = .ok (.iconst 0, 1) := by decide +kernel
theorem d_La_law_17 : decode b_La_law 17 = .ok (.istore_n 3, 1) := by decide +kernel
theorem d_La_law_18 : decode b_La_law 18 = .ok (.iload_n 3, 1) := by decide +kernel
theorem d_La_law_19 : decode b_La_law 19 = .ok (.aload_n 0, 1) := by decide +kernel
theorem d_La_law_20 : decode b_La_law 20 = .ok (.arraylength, 1) := by decide +kernel
theorem d_La_law_21 : decode b_La_law 21 = .ok (.iconst 5, 1) := by decide +kernel
theorem d_La_law_22 : decode b_La_law 22 = .ok (.isub, 1) := by decide +kernel
theorem d_La_law_23 : decode b_La_law 23 = .ok (.if_icmp .gt 647, 3) := by decide +kernel
theorem d_La_law_26 : decode b_La_law 26 = .ok (.aload_n 0, 1) := by decide +kernel
theorem d_La_law_27 : decode b_La_law 27 = .ok (.iload_n 3, 1) := by decide +kernel
theorem d_La_law_28 : decode b_La_law 28 = .ok (.iaload, 1) := by decide +kernel
theorem d_La_law_29 : decode b_La_law 29 = .ok (.bipush 31, 2) := by decide +kernel
theorem d_La_law_31 : decode b_La_law 31 = .ok (.iand, 1) := by decide +kernel
theorem d_La_law_32 : decode b_La_law 32 = .ok (.tableswitch 632 0 17 #[88, 131, 184, 237, 290, 323, 346, 369, 382, 415, 448, 471, 494, 517, 550, 563, 596, 619], 88) := by decide +kernel
theorem d_La_law_120 : decode b_La_law 120 = .ok (.aload_n 1, 1) := by decide +kernel
theorem d_La_law_121 : decode b_La_law 121 = .ok (.aload_n 0, 1) := by decide +kernel
theorem d_La_law_122 : decode b_La_law 122 = .ok (.iload_n 3, 1) := by decide +kernel
theorem d_La_law_123 : decode b_La_law 123 = .ok (.iconst 1, 1) := by decide +kernel
theorem d_La_law_124 : decode b_La_law 124 = .ok (.iadd, 1) := by decide +kernel
theorem d_La_law_125 : decode b_La_law 125 = .ok (.iaload, 1) := by decide +kernel
theorem d_La_law_126 : decode b_La_law 126 = .ok (.aload_n 0, 1) := by decide +kernel
theorem d_La_law_127 : decode b_La_law 127 = .ok (.iload_n 3, 1) := by decide +kernel
theorem d_La_law_128 : decode b_La_law 128 = .ok (.iconst 2, 1) := by decide +kernel
theorem d_La_law_129 : decode b_La_law 129 = .ok (.iadd, 1) := by decide +kernel
theorem d_La_law_130 : decode b_La_law 130 = .ok (.iaload, 1) := by decide +kernel
theorem d_La_law_131 : decode b_La_law 131 = .ok (.aload_n 0, 1) := by decide +kernel
theorem d_La_law_132 : decode b_La_law 132 = .ok (.iload_n 3, 1) := by decide +kernel
theorem d_La_law_133 : decode b_La_law 133 = .ok (.iconst 3, 1) := by decide +kernel
theorem d_La_law_134 : decode b_La_law 134 = .ok (.iadd, 1) := by decide +kernel
theorem d_La_law_135 : decode b_La_law 135 = .ok (.iaload, 1) := by decide +kernel
theorem d_La_law_136 : decode b_La_law 136 = .ok (.invokevirtual 13, 3) := by decide +kernel
theorem d_La_law_139 : decode b_La_law 139 = .ok (.aload_n 2, 1) := by decide +kernel
theorem d_La_law_140 : decode b_La_law 140 = .ok (.aload_n 0, 1) := by decide +kernel
theorem d_La_law_141 : decode b_La_law 141 = .ok (.iload_n 3, 1) := by decide +kernel
theorem d_La_law_142 : decode b_La_law 142 = .ok (.iconst 1, 1) := by decide +kernel
theorem d_La_law_143 : decode b_La_law 143 = .ok (.iadd, 1) := by decide +kernel
theorem d_La_law_144 : decode b_La_law 144 = .ok (.iaload, 1) := by decide +kernel
theorem d_La_law_145 : decode b_La_law 145 = .ok (.aload_n 0, 1) := by decide +kernel
theorem d_La_law_146 : decode b_La_law 146 = .ok (.iload_n 3, 1) := by decide +kernel
theorem d_La_law_147 : decode b_La_law 147 = .ok (.iconst 2, 1) := by decide +kernel
theorem d_La_law_148 : decode b_La_law 148 = .ok (.iadd, 1) := by decide +kernel
theorem d_La_law_149 : decode b_La_law 149 = .ok (.iaload, 1) := by decide +kernel
theorem d_La_law_150 : decode b_La_law 150 = .ok (.aload_n 0, 1) := by decide +kernel
theorem d_La_law_151 : decode b_La_law 151 = .ok (.iload_n 3, 1) := by decide +kernel
theorem d_La_law_152 : decode b_La_law 152 = .ok (.iconst 3, 1) := by decide +kernel
theorem d_La_law_153 : decode b_La_law 153 = .ok (.iadd, 1) := by decide +kernel
theorem d_La_law_154 : decode b_La_law 154 = .ok (.iaload, 1) := by decide +kernel
theorem d_La_law_155 : decode b_La_law 155 = .ok (.invokevirtual 17, 3) := by decide +kernel
theorem d_La_law_158 : decode b_La_law 158 = .ok (.if_icmp .eq 506, 3) := by decide +kernel
theorem d_La_law_161 : decode b_La_law 161 = .ok (.iconst 0, 1) := by decide +kernel
theorem d_La_law_162 : decode b_La_law 162 = .ok (.ireturn, 1) := by decide +kernel
theorem d_La_law_163 : decode b_La_law 163 = .ok (.aload_n 1, 1) := by decide +kernel
theorem d_La_law_164 : decode b_La_law 164 = .ok (.aload_n 0, 1) := by decide +kernel
theorem d_La_law_165 : decode b_La_law 165 = .ok (.iload_n 3, 1) := by decide +kernel
theorem d_La_law_166 : decode b_La_law 166 = .ok (.iconst 1, 1) := by decide +kernel
theorem d_La_law_167 : decode b_La_law 167 = .ok (.iadd, 1) := by decide +kernel
theorem d_La_law_168 : decode b_La_law 168 = .ok (.iaload, 1) := by decide +kernel
theorem d_La_law_169 : decode b_La_law 169 = .ok (.aload_n 0, 1) := by decide +kernel
theorem d_La_law_170 : decode b_La_law 170 = .ok (.iload_n 3, 1) := by decide +kernel
theorem d_La_law_171 : decode b_La_law 171 = .ok (.iconst 2, 1) := by decide +kernel
theorem d_La_law_172 : decode b_La_law 172 = .ok (.iadd, 1) := by decide +kernel
theorem d_La_law_173 : decode b_La_law 173 = .ok (.iaload, 1) := by decide +kernel
theorem d_La_law_174 : decode b_La_law 174 = .ok (.aload_n 0, 1) := by decide +kernel
theorem d_La_law_175 : decode b_La_law 175 = .ok (.iload_n 3, 1) := by decide +kernel
theorem d_La_law_176 : decode b_La_law 176 = .ok (.iconst 3, 1) := by decide +kernel
theorem d_La_law_177 : decode b_La_law 177 = .ok (.iadd, 1) := by decide +kernel
theorem d_La_law_178 : decode b_La_law 178 = .ok (.iaload, 1) := by decide +kernel
theorem d_La_law_179 : decode b_La_law 179 = .ok (.aload_n 0, 1) := by decide +kernel
theorem d_La_law_180 : decode b_La_law 180 = .ok (.iload_n 3, 1) := by decide +kernel
theorem d_La_law_181 : decode b_La_law 181 = .ok (.iconst 4, 1) := by decide +kernel
theorem d_La_law_182 : decode b_La_law 182 = .ok (.iadd, 1) := by decide +kernel
theorem d_La_law_183 : decode b_La_law 183 = .ok (.iaload, 1) := by decide +kernel
theorem d_La_law_184 : decode b_La_law 184 = .ok (.invokevirtual 18, 3) := by decide +kernel
theorem d_La_law_187 : decode b_La_law 187 = .ok (.aload_n 2, 1) := by decide +kernel
theorem d_La_law_188 : decode b_La_law 188 = .ok (.aload_n 0, 1) := by decide +kernel
theorem d_La_law_189 : decode b_La_law 189 = .ok (.iload_n 3, 1) := by decide +kernel
theorem d_La_law_190 : decode b_La_law 190 = .ok (.iconst 1, 1) := by decide +kernel
theorem d_La_law_191 : decode b_La_law 191 = .ok (.iadd, 1) := by decide +kernel
theorem d_La_law_192 : decode b_La_law 192 = .ok (.iaload, 1) := by decide +kernel
theorem d_La_law_193 : decode b_La_law 193 = .ok (.aload_n 0, 1) := by decide +kernel
theorem d_La_law_194 : decode b_La_law 194 = .ok (.iload_n 3, 1) := by decide +kernel
theorem d_La_law_195 : decode b_La_law 195 = .ok (.iconst 2, 1) := by decide +kernel
theorem d_La_law_196 : decode b_La_law 196 = .ok (.iadd, 1) := by decide +kernel
theorem d_La_law_197 : decode b_La_law 197 = .ok (.iaload, 1) := by decide +kernel
theorem d_La_law_198 : decode b_La_law 198 = .ok (.aload_n 0, 1) := by decide +kernel
theorem d_La_law_199 : decode b_La_law 199 = .ok (.iload_n 3, 1) := by decide +kernel
theorem d_La_law_200 : decode b_La_law 200 = .ok (.iconst 3, 1) := by decide +kernel
theorem d_La_law_201 : decode b_La_law 201 = .ok (.iadd, 1) := by decide +kernel
theorem d_La_law_202 : decode b_La_law 202 = .ok (.iaload, 1) := by decide +kernel
theorem d_La_law_203 : decode b_La_law 203 = .ok (.aload_n 0, 1) := by decide +kernel
theorem d_La_law_204 : decode b_La_law 204 = .ok (.iload_n 3, 1) := by decide +kernel
theorem d_La_law_205 : decode b_La_law 205 = .ok (.iconst 4, 1) := by decide +kernel
theorem d_La_law_206 : decode b_La_law 206 = .ok (.iadd, 1) := by decide +kernel
theorem d_La_law_207 : decode b_La_law 207 = .ok (.iaload, 1) := by decide +kernel
theorem d_La_law_208 : decode b_La_law 208 = .ok (.invokevirtual 22, 3) := by decide +kernel
theorem d_La_law_211 : decode b_La_law 211 = .ok (.if_icmp .eq 453, 3) := by decide +kernel
theorem d_La_law_214 : decode b_La_law 214 = .ok (.iconst 0, 1) := by decide +kernel
theorem d_La_law_215 : decode b_La_law 215 = .ok (.ireturn, 1) := by decide +kernel
theorem d_La_law_216 : decode b_La_law 216 = .ok (.aload_n 1, 1) := by decide +kernel
theorem d_La_law_217 : decode b_La_law 217 = .ok (.aload_n 0, 1) := by decide +kernel
theorem d_La_law_218 : decode b_La_law 218 = .ok (.iload_n 3, 1) := by decide +kernel
theorem d_La_law_219 : decode b_La_law 219 = .ok (.iconst 1, 1) := by decide +kernel
theorem d_La_law_220 : decode b_La_law 220 = .ok (.iadd, 1) := by decide +kernel
theorem d_La_law_221 : decode b_La_law 221 = .ok (.iaload, 1) := by decide +kernel
theorem d_La_law_222 : decode b_La_law 222 = .ok (.aload_n 0, 1) := by decide +kernel
theorem d_La_law_223 : decode b_La_law 223 = .ok (.iload_n 3, 1) := by decide +kernel
theorem d_La_law_224 : decode b_La_law 224 = .ok (.iconst 2, 1) := by decide +kernel
theorem d_La_law_225 : decode b_La_law 225 = .ok (.iadd, 1) := by decide +kernel
theorem d_La_law_226 : decode b_La_law 226 = .ok (.iaload, 1) := by decide +kernel
theorem d_La_law_227 : decode b_La_law 227 = .ok (.aload_n 0, 1) := by decide +kernel
theorem d_La_law_228 : decode b_La_law 228 = .ok (.iload_n 3, 1) := by decide +kernel
theorem d_La_law_229 : decode b_La_law 229 = .ok (.iconst 3, 1) := by decide +kernel
